variable {f_saidPlace f_instanceCount f_nodeCount f_equationCount f_stackCount f_wordCount f_depth f_cellCount f_consCount f_closureCount f_stepCount f_runAnswer f_writtenCount : Int32} {a_kinds a_values a_spans a_bounds a_binders a_lengths a_parameterCounts a_typeCodes a_typeLengths a_instanceFunctions a_nodeKinds a_nodeLefts a_nodeRights a_nodeSizes a_equationLefts a_equationRights a_stackLefts a_stackRights a_words a_boundWords a_cellFirsts a_cellSeconds a_closureTokens a_closureWords a_written : Nat → Int32}
variable {yf_place yf_points yf_names yf_textEnd yf_made yf_entry yf_waiting yf_values yf_bound yf_cells yf_conses yf_lams yf_steps yf_atWork yf_end yf_writtenCount : Int32} {ya_kind ya_up ya_turn ya_depth ya_value ya_below ya_length ya_parameters ya_codes ya_codeCount ya_form ya_colour ya_same ya_one ya_two ya_todo ya_numbered ya_text ya_ofFunction ya_codeEnd ya_instance ya_token ya_env ya_tag ya_cellEnv ya_boundNext ya_step ya_boundNumber ya_boundTag ya_headTag ya_tailTag ya_number ya_boundValue ya_head ya_tail ya_written : Nat → Int32}
variable {ln P : Nat → Nat} {kN : Nat → Nat → Nat} {vl : Nat → Nat → Int32} {oc sp bd bi : Nat → Nat → Nat} {cod : Nat → List Nat}
theorem ar_0 {k : Nat} (hk : k ≤ 16) (h4 : k ≠ 4) (h0 : ar k = 0) : k = 0 ∨ k = 1 ∨ k = 2 ∨ k = 3 ∨ k = 8 := by
  rcases k17 hk with rfl | rfl | rfl | rfl | rfl | rfl | rfl | rfl | rfl | rfl | rfl | rfl | rfl | rfl | rfl | rfl | rfl <;> first | omega | (exfalso; revert h0; decide)
/-- a token is begun -/
theorem st_A {T0 : mt_T} {px : Int32 → SX → Prop} {B : (Int32 → SY → Prop) → Prop} {mu : Nat} {nh nw nd nx nk nl ns nt nb nc : Nat} {rsl rsr rwd rbw rcf rcs rct rcw rtk ren rtg rce rbx rst rbn rbt rht rtt rnu rbv rhd rtl : Nat → Int32} {g t : Nat} {e : Int32} {rho : Nat → mt_T} {st : List FE} {ws : List FV} {ty : Nat → mt_T} {cm lc : Nat → Nat} (hlib : lib ln P kN vl oc sp bd bi cod) (hmx : mx_ok ln P kN vl sp bd a_kinds a_values a_spans a_bounds a_lengths a_parameterCounts) (hmy : my_ok ln P kN vl oc sp ya_kind ya_value ya_below ya_parameters)
    (hk : kk ln P kN vl oc sp bd bi cod T0 px B mu f_saidPlace f_instanceCount f_nodeCount f_equationCount f_stackCount f_wordCount f_depth f_cellCount f_consCount f_closureCount f_stepCount f_runAnswer f_writtenCount a_kinds a_values a_spans a_bounds a_binders a_lengths a_parameterCounts a_typeCodes a_typeLengths a_instanceFunctions a_nodeKinds a_nodeLefts a_nodeRights a_nodeSizes a_equationLefts a_equationRights a_stackLefts a_stackRights a_words a_boundWords a_cellFirsts a_cellSeconds a_closureTokens a_closureWords a_written yf_place yf_points yf_names yf_textEnd yf_made yf_entry yf_waiting yf_values yf_bound yf_cells yf_conses yf_lams yf_steps yf_atWork yf_end yf_writtenCount ya_kind ya_up ya_turn ya_depth ya_value ya_below ya_length ya_parameters ya_codes ya_codeCount ya_form ya_colour ya_same ya_one ya_two ya_todo ya_numbered ya_text ya_ofFunction ya_codeEnd ya_instance ya_token ya_env ya_tag ya_cellEnv ya_boundNext ya_step ya_boundNumber ya_boundTag ya_headTag ya_tailTag ya_number ya_boundValue ya_head ya_tail ya_written) (h : ra_ok ln P kN vl oc sp bd bi cod T0 (mu + 1) nh nw nd nx nk nl ns nt nb nc rsl rsr rwd rbw rcf rcs rct rcw rtk ren rtg rce rbx rst rbn rbt rht rtt rnu rbv rhd rtl g t e rho st ws ty cm lc) (hY : ∀ Q, (∃ n, wY_run_75 Q n yf_place yf_points yf_names yf_textEnd yf_made yf_entry (nI nt) (nI nw) (nI nb) (nI nc) (nI nk) (nI nl) (nI ns) (nI nd) 0 yf_writtenCount ya_kind ya_up ya_turn ya_depth ya_value ya_below ya_length ya_parameters ya_codes ya_codeCount ya_form ya_colour ya_same ya_one ya_two ya_todo ya_numbered ya_text ya_ofFunction ya_codeEnd ya_instance rtk ren rtg rce rbx rst rbn rbt rht rtt rnu rbv rhd rtl ya_written) → B Q) : wpX_begin px (f_saidPlace, f_instanceCount, f_nodeCount, f_equationCount, (nI nh), (nI nw), (nI nd), (nI nx), (nI nk), (nI nl), (nI ns), 0, f_writtenCount, a_kinds, a_values, a_spans, a_bounds, a_binders, a_lengths, a_parameterCounts, a_typeCodes, a_typeLengths, a_instanceFunctions, a_nodeKinds, a_nodeLefts, a_nodeRights, a_nodeSizes, a_equationLefts, a_equationRights, rsl, rsr, rwd, rbw, rcf, rcs, rct, rcw, a_written) (nI ((5 + g) * 24 + t)) := by
  obtain ⟨a1, a2, a3, _⟩ := h.2.1
  obtain ⟨t1, t2, t3, t4⟩ := tok_oc hlib a1 a2 a3
  by_cases z : kN g t = 15
  · exact st_lam hlib hmx hmy hk h hY z
  · by_cases y : oc g t = 0
    · by_cases x : kN g t = 4
      · exact st_call0 hlib hmx hmy hk h hY x y
      · exact st_leaf hlib hmx hmy hk h hY (ar_0 t1 x (by rw [← t4 x]; exact y))
    · exact st_down hlib hmx hmy hk h hY z (by omega)
/-- a value was worked out -/
theorem st_N {T0 : mt_T} {px : Int32 → SX → Prop} {B : (Int32 → SY → Prop) → Prop} {mu : Nat} {nh nw nd nx nk nl ns nt nb nc : Nat} {rsl rsr rwd rbw rcf rcs rct rcw rtk ren rtg rce rbx rst rbn rbt rht rtt rnu rbv rhd rtl : Nat → Int32} {E : FE} {st : List FE} {w : FV} {ws : List FV} {ty : Nat → mt_T} {cm lc : Nat → Nat} (hlib : lib ln P kN vl oc sp bd bi cod) (hmx : mx_ok ln P kN vl sp bd a_kinds a_values a_spans a_bounds a_lengths a_parameterCounts) (hmy : my_ok ln P kN vl oc sp ya_kind ya_value ya_below ya_parameters)
    (hk : kk ln P kN vl oc sp bd bi cod T0 px B mu f_saidPlace f_instanceCount f_nodeCount f_equationCount f_stackCount f_wordCount f_depth f_cellCount f_consCount f_closureCount f_stepCount f_runAnswer f_writtenCount a_kinds a_values a_spans a_bounds a_binders a_lengths a_parameterCounts a_typeCodes a_typeLengths a_instanceFunctions a_nodeKinds a_nodeLefts a_nodeRights a_nodeSizes a_equationLefts a_equationRights a_stackLefts a_stackRights a_words a_boundWords a_cellFirsts a_cellSeconds a_closureTokens a_closureWords a_written yf_place yf_points yf_names yf_textEnd yf_made yf_entry yf_waiting yf_values yf_bound yf_cells yf_conses yf_lams yf_steps yf_atWork yf_end yf_writtenCount ya_kind ya_up ya_turn ya_depth ya_value ya_below ya_length ya_parameters ya_codes ya_codeCount ya_form ya_colour ya_same ya_one ya_two ya_todo ya_numbered ya_text ya_ofFunction ya_codeEnd ya_instance ya_token ya_env ya_tag ya_cellEnv ya_boundNext ya_step ya_boundNumber ya_boundTag ya_headTag ya_tailTag ya_number ya_boundValue ya_head ya_tail ya_written) (h : rn_ok ln P kN vl oc sp bd bi cod T0 (mu + 1) nh nw nd nx nk nl ns nt nb nc rsl rsr rwd rbw rcf rcs rct rcw rtk ren rtg rce rbx rst rbn rbt rht rtt rnu rbv rhd rtl (E :: st) w ws ty cm lc) (hY : ∀ Q, (∃ n, wY_run_75 Q n yf_place yf_points yf_names yf_textEnd yf_made yf_entry (nI nt) (nI nw) (nI nb) (nI nc) (nI nk) (nI nl) (nI ns) (nI nd) 0 yf_writtenCount ya_kind ya_up ya_turn ya_depth ya_value ya_below ya_length ya_parameters ya_codes ya_codeCount ya_form ya_colour ya_same ya_one ya_two ya_todo ya_numbered ya_text ya_ofFunction ya_codeEnd ya_instance rtk ren rtg rce rbx rst rbn rbt rht rtt rnu rbv rhd rtl ya_written) → B Q) : wpX_goOn px (f_saidPlace, f_instanceCount, f_nodeCount, f_equationCount, (nI nh), (nI nw), (nI nd), (nI nx), (nI nk), (nI nl), (nI ns), 0, f_writtenCount, a_kinds, a_values, a_spans, a_bounds, a_binders, a_lengths, a_parameterCounts, a_typeCodes, a_typeLengths, a_instanceFunctions, a_nodeKinds, a_nodeLefts, a_nodeRights, a_nodeSizes, a_equationLefts, a_equationRights, rsl, rsr, rwd, rbw, rcf, rcs, rct, rcw, a_written) := by
  cases E with
  | none =>
    refine st_none hk h hY ?_
    obtain ⟨hrc, ⟨lim, d', e1, e2, e3, e4, e5⟩, _, _⟩ := h
    have c1 := hrc.1
    have c3 := hrc.2.2.1
    simp only [List.length_cons] at c1
    omega
  | some E =>
    obtain ⟨g, t, s, e, rho⟩ := E
    have h0 := h
    obtain ⟨_, ⟨lim, hfr, hnm, h15, _⟩, _, _⟩ := h0
    obtain ⟨a1, a2, a3, _⟩ := hfr
    obtain ⟨t1, t2, t3, t4⟩ := tok_oc hlib a1 a2 a3
    by_cases z : kN g t = 11 ∨ kN g t = 14 ∨ kN g t = 10
    · exact st_in hlib hmx hmy hk h hY z
    · have z10 : kN g t ≠ 10 := fun y => z (Or.inr (Or.inr y))
      have z11 : kN g t ≠ 11 := fun y => z (Or.inl y)
      have z14 : kN g t ≠ 14 := fun y => z (Or.inr (Or.inl y))
      rw [nm_o z10 z11 z14] at hnm
      by_cases y : s + 1 < oc g t
      · exact st_next hlib hmx hmy hk h hY z10 z11 z14 y
      · have y' : oc g t ≤ s + 1 := by omega
        by_cases k4 : kN g t = 4
        · exact st_callN hlib hmx hmy hk h hY k4 y'
        · have t4' := t4 k4
          rcases k17 t1 with x | x | x | x | x | x | x | x | x | x | x | x | x | x | x | x | x
          · rw [x] at t4'; rw [t4'] at hnm; exact absurd hnm (Nat.not_lt_zero _)
          · rw [x] at t4'; rw [t4'] at hnm; exact absurd hnm (Nat.not_lt_zero _)
          · rw [x] at t4'; rw [t4'] at hnm; exact absurd hnm (Nat.not_lt_zero _)
          · rw [x] at t4'; rw [t4'] at hnm; exact absurd hnm (Nat.not_lt_zero _)
          · exact absurd x k4
          · exact st_two hlib hmx hmy hk h hY (Or.inr (Or.inr (Or.inl x))) y'
          · exact st_one hlib hmx hmy hk h hY (Or.inl x)
          · exact st_one hlib hmx hmy hk h hY (Or.inr x)
          · rw [x] at t4'; rw [t4'] at hnm; exact absurd hnm (Nat.not_lt_zero _)
          · exact st_two hlib hmx hmy hk h hY (Or.inr (Or.inr (Or.inr x))) y'
          · exact absurd x z10
          · exact absurd x z11
          · exact st_two hlib hmx hmy hk h hY (Or.inl x) y'
          · exact st_two hlib hmx hmy hk h hY (Or.inr (Or.inl x)) y'
          · exact absurd x z14
          · exact absurd x h15
          · exact st_app hlib hmx hmy hk h hY x y'
theorem x_stop {post : Int32 → SX → Prop} {n : Nat} {z0 x3 : Int32} (h : wX_run_88 post f_saidPlace f_instanceCount f_nodeCount f_equationCount f_stackCount f_wordCount f_depth f_cellCount f_consCount f_closureCount f_stepCount f_runAnswer f_writtenCount a_kinds a_values a_spans a_bounds a_binders a_lengths a_parameterCounts a_typeCodes a_typeLengths a_instanceFunctions a_nodeKinds a_nodeLefts a_nodeRights a_nodeSizes a_equationLefts a_equationRights a_stackLefts a_stackRights a_words a_boundWords a_cellFirsts a_cellSeconds a_closureTokens a_closureWords a_written) : wX_run_29 post (n + 1) z0 0 x3 f_saidPlace f_instanceCount f_nodeCount f_equationCount f_stackCount f_wordCount f_depth f_cellCount f_consCount f_closureCount f_stepCount f_runAnswer f_writtenCount a_kinds a_values a_spans a_bounds a_binders a_lengths a_parameterCounts a_typeCodes a_typeLengths a_instanceFunctions a_nodeKinds a_nodeLefts a_nodeRights a_nodeSizes a_equationLefts a_equationRights a_stackLefts a_stackRights a_words a_boundWords a_cellFirsts a_cellSeconds a_closureTokens a_closureWords a_written :=
  br_c (fun _ => h) (fun _ => br_t rfl h)
/-- the turns -/
theorem run_loop {T0 : mt_T} {post : Int32 → SX → Prop} {B : (Int32 → SY → Prop) → Prop} (hlib : lib ln P kN vl oc sp bd bi cod) (hmx : mx_ok ln P kN vl sp bd a_kinds a_values a_spans a_bounds a_lengths a_parameterCounts) (hmy : my_ok ln P kN vl oc sp ya_kind ya_value ya_below ya_parameters)
    (hE : ∀ (nh nw nd nx nk nl ns nt nb nc : Nat) (rsl rsr rwd rbw rcf rcs rct rcw rtk ren rtg rce rbx rst rbn rbt rht rtt rnu rbv rhd rtl : Nat → Int32) (c xk xl xw xx xh vt vl' vk vv' vb vc : Int32), c ≠ 0 → (∀ Q, (∃ n, wY_run_75 Q n yf_place yf_points yf_names yf_textEnd yf_made yf_entry vt vv' vb vc vk vl' (nI ns) (nI nd) c yf_writtenCount ya_kind ya_up ya_turn ya_depth ya_value ya_below ya_length ya_parameters ya_codes ya_codeCount ya_form ya_colour ya_same ya_one ya_two ya_todo ya_numbered ya_text ya_ofFunction ya_codeEnd ya_instance rtk ren rtg rce rbx rst rbn rbt rht rtt rnu rbv rhd rtl ya_written) → B Q) → wX_run_88 post f_saidPlace f_instanceCount f_nodeCount f_equationCount xh xw (nI nd) xx xk xl (nI ns) c f_writtenCount a_kinds a_values a_spans a_bounds a_binders a_lengths a_parameterCounts a_typeCodes a_typeLengths a_instanceFunctions a_nodeKinds a_nodeLefts a_nodeRights a_nodeSizes a_equationLefts a_equationRights rsl rsr rwd rbw rcf rcs rct rcw a_written)
    (hV : ∀ (nh nw nd nx nk nl ns nt nb nc : Nat) (rsl rsr rwd rbw rcf rcs rct rcw rtk ren rtg rce rbx rst rbn rbt rht rtt rnu rbv rhd rtl : Nat → Int32) mu w ws ty cm lc, rn_ok ln P kN vl oc sp bd bi cod T0 mu nh nw nd nx nk nl ns nt nb nc rsl rsr rwd rbw rcf rcs rct rcw rtk ren rtg rce rbx rst rbn rbt rht rtt rnu rbv rhd rtl [] w ws ty cm lc → (∀ Q, (∃ n, wY_run_75 Q n yf_place yf_points yf_names yf_textEnd yf_made yf_entry (nI nt) (nI nw) (nI nb) (nI nc) (nI nk) (nI nl) (nI ns) (nI nd) 0 yf_writtenCount ya_kind ya_up ya_turn ya_depth ya_value ya_below ya_length ya_parameters ya_codes ya_codeCount ya_form ya_colour ya_same ya_one ya_two ya_todo ya_numbered ya_text ya_ofFunction ya_codeEnd ya_instance rtk ren rtg rce rbx rst rbn rbt rht rtt rnu rbv rhd rtl ya_written) → B Q) → wX_run_88 post f_saidPlace f_instanceCount f_nodeCount f_equationCount (nI nh) (nI nw) (nI nd) (nI nx) (nI nk) (nI nl) (nI ns) 0 f_writtenCount a_kinds a_values a_spans a_bounds a_binders a_lengths a_parameterCounts a_typeCodes a_typeLengths a_instanceFunctions a_nodeKinds a_nodeLefts a_nodeRights a_nodeSizes a_equationLefts a_equationRights rsl rsr rwd rbw rcf rcs rct rcw a_written) :
    ∀ mu, (∀ fu tn (nh nw nd nx nk nl ns nt nb nc : Nat) (rsl rsr rwd rbw rcf rcs rct rcw rtk ren rtg rce rbx rst rbn rbt rht rtt rnu rbv rhd rtl : Nat → Int32) g t e rho st ws ty cm lc, mu + 1 < fu → tn + mu < 1000000 → ra_ok ln P kN vl oc sp bd bi cod T0 mu nh nw nd nx nk nl ns nt nb nc rsl rsr rwd rbw rcf rcs rct rcw rtk ren rtg rce rbx rst rbn rbt rht rtt rnu rbv rhd rtl g t e rho st ws ty cm lc → (∀ Q, (∃ n, wY_run_75 Q n yf_place yf_points yf_names yf_textEnd yf_made yf_entry (nI nt) (nI nw) (nI nb) (nI nc) (nI nk) (nI nl) (nI ns) (nI nd) 0 yf_writtenCount ya_kind ya_up ya_turn ya_depth ya_value ya_below ya_length ya_parameters ya_codes ya_codeCount ya_form ya_colour ya_same ya_one ya_two ya_todo ya_numbered ya_text ya_ofFunction ya_codeEnd ya_instance rtk ren rtg rce rbx rst rbn rbt rht rtt rnu rbv rhd rtl ya_written) → B Q) → wX_run_29 post fu (nI ((5 + g) * 24 + t)) 1 (nI tn) f_saidPlace f_instanceCount f_nodeCount f_equationCount (nI nh) (nI nw) (nI nd) (nI nx) (nI nk) (nI nl) (nI ns) 0 f_writtenCount a_kinds a_values a_spans a_bounds a_binders a_lengths a_parameterCounts a_typeCodes a_typeLengths a_instanceFunctions a_nodeKinds a_nodeLefts a_nodeRights a_nodeSizes a_equationLefts a_equationRights rsl rsr rwd rbw rcf rcs rct rcw a_written) ∧
      (∀ fu tn (nh nw nd nx nk nl ns nt nb nc : Nat) (rsl rsr rwd rbw rcf rcs rct rcw rtk ren rtg rce rbx rst rbn rbt rht rtt rnu rbv rhd rtl : Nat → Int32) E st w ws ty cm lc, mu + 1 < fu → tn + mu < 1000000 → rn_ok ln P kN vl oc sp bd bi cod T0 mu nh nw nd nx nk nl ns nt nb nc rsl rsr rwd rbw rcf rcs rct rcw rtk ren rtg rce rbx rst rbn rbt rht rtt rnu rbv rhd rtl (E :: st) w ws ty cm lc → (∀ Q, (∃ n, wY_run_75 Q n yf_place yf_points yf_names yf_textEnd yf_made yf_entry (nI nt) (nI nw) (nI nb) (nI nc) (nI nk) (nI nl) (nI ns) (nI nd) 0 yf_writtenCount ya_kind ya_up ya_turn ya_depth ya_value ya_below ya_length ya_parameters ya_codes ya_codeCount ya_form ya_colour ya_same ya_one ya_two ya_todo ya_numbered ya_text ya_ofFunction ya_codeEnd ya_instance rtk ren rtg rce rbx rst rbn rbt rht rtt rnu rbv rhd rtl ya_written) → B Q) → wX_run_29 post fu (-1) 1 (nI tn) f_saidPlace f_instanceCount f_nodeCount f_equationCount (nI nh) (nI nw) (nI nd) (nI nx) (nI nk) (nI nl) (nI ns) 0 f_writtenCount a_kinds a_values a_spans a_bounds a_binders a_lengths a_parameterCounts a_typeCodes a_typeLengths a_instanceFunctions a_nodeKinds a_nodeLefts a_nodeRights a_nodeSizes a_equationLefts a_equationRights rsl rsr rwd rbw rcf rcs rct rcw a_written) := by
  intro mu
  induction mu with
  | zero =>
    refine ⟨fun fu tn => ?_, fun fu tn => ?_⟩
    · intro nh nw nd nx nk nl ns nt nb nc _ _ _ _ _ _ _ _ _ _ _ _ _ _ _ _ _ _ _ _ _ _ g t e rho st ws ty cm lc _ _ h _
      exfalso
      obtain ⟨a1, a2, a3, _⟩ := h.2.1
      have w4 := ((lib1 hlib a1 a2).1.2.1.2.2 t a3).1
      obtain ⟨_, _, _, _, _, _, _, _, _, d5⟩ := h
      omega
    · intro nh nw nd nx nk nl ns nt nb nc _ _ _ _ _ _ _ _ _ _ _ _ _ _ _ _ _ _ _ _ _ _ E st w ws ty cm lc _ _ h _
      exfalso
      obtain ⟨_, _, _, d5⟩ := h
      cases E with
      | none =>
        have : wt (fT sp) 1 (none :: st) = 1 + wt (fT sp) 1 st := rfl
        omega
      | some E =>
        obtain ⟨g, t, s, e, rho⟩ := E
        have : wt (fT sp) 1 (some (g, t, s, e, rho) :: st) = fT sp g t s + wt (fT sp) 1 st := rfl
        have := fT_pos (sp := sp) g t s
        omega
  | succ mu ih =>
    obtain ⟨ihA, ihN⟩ := ih
    have hk : ∀ fu tn, mu + 1 < fu → tn + 1 + mu < 1000000 → kk ln P kN vl oc sp bd bi cod T0 (fun r u => match u with | (f_saidPlace, f_instanceCount, f_nodeCount, f_equationCount, f_stackCount, f_wordCount, f_depth, f_cellCount, f_consCount, f_closureCount, f_stepCount, f_runAnswer, f_writtenCount, a_kinds, a_values, a_spans, a_bounds, a_binders, a_lengths, a_parameterCounts, a_typeCodes, a_typeLengths, a_instanceFunctions, a_nodeKinds, a_nodeLefts, a_nodeRights, a_nodeSizes, a_equationLefts, a_equationRights, a_stackLefts, a_stackRights, a_words, a_boundWords, a_cellFirsts, a_cellSeconds, a_closureTokens, a_closureWords, a_written) => wX_run_56 post (wX_run_29 post fu) (nI tn) r f_saidPlace f_instanceCount f_nodeCount f_equationCount f_stackCount f_wordCount f_depth f_cellCount f_consCount f_closureCount f_stepCount f_runAnswer f_writtenCount a_kinds a_values a_spans a_bounds a_binders a_lengths a_parameterCounts a_typeCodes a_typeLengths a_instanceFunctions a_nodeKinds a_nodeLefts a_nodeRights a_nodeSizes a_equationLefts a_equationRights a_stackLefts a_stackRights a_words a_boundWords a_cellFirsts a_cellSeconds a_closureTokens a_closureWords a_written) B mu f_saidPlace f_instanceCount f_nodeCount f_equationCount 0 0 0 0 0 0 0 0 f_writtenCount a_kinds a_values a_spans a_bounds a_binders a_lengths a_parameterCounts a_typeCodes a_typeLengths a_instanceFunctions a_nodeKinds a_nodeLefts a_nodeRights a_nodeSizes a_equationLefts a_equationRights (fun _ => 0) (fun _ => 0) (fun _ => 0) (fun _ => 0) (fun _ => 0) (fun _ => 0) (fun _ => 0) (fun _ => 0) a_written yf_place yf_points yf_names yf_textEnd yf_made yf_entry 0 0 0 0 0 0 0 0 0 yf_writtenCount ya_kind ya_up ya_turn ya_depth ya_value ya_below ya_length ya_parameters ya_codes ya_codeCount ya_form ya_colour ya_same ya_one ya_two ya_todo ya_numbered ya_text ya_ofFunction ya_codeEnd ya_instance (fun _ => 0) (fun _ => 0) (fun _ => 0) (fun _ => 0) (fun _ => 0) (fun _ => 0) (fun _ => 0) (fun _ => 0) (fun _ => 0) (fun _ => 0) (fun _ => 0) (fun _ => 0) (fun _ => 0) (fun _ => 0) ya_written := by
      intro fu tn hfu htn
      refine ⟨?_, ?_, ?_⟩
      · intro nh nw nd nx nk nl ns nt nb nc rsl rsr rwd rbw rcf rcs rct rcw rtk ren rtg rce rbx rst rbn rbt rht rtt rnu rbv rhd rtl g t e rho st ws ty cm lc h hY
        have n24 := (lib1 hlib h.2.1.1 h.2.1.2.1).1.1
        have hg := h.2.1.1
        have ht := h.2.1.2.2.1
        exact br_t rfl (br_f (ni_ne1 (by omega)) (nm_r (nI_1 tn) (ihA fu (tn + 1) nh nw nd nx nk nl ns nt nb nc rsl rsr rwd rbw rcf rcs rct rcw rtk ren rtg rce rbx rst rbn rbt rht rtt rnu rbv rhd rtl g t e rho st ws ty cm lc hfu htn h hY)))
      · intro nh nw nd nx nk nl ns nt nb nc rsl rsr rwd rbw rcf rcs rct rcw rtk ren rtg rce rbx rst rbn rbt rht rtt rnu rbv rhd rtl st w ws ty cm lc h hY
        obtain ⟨fu, rfl⟩ : ∃ g, fu = g + 1 := ⟨fu - 1, by omega⟩
        have c1 := h.1.1
        have c3 := h.1.2.2.1
        have hV' := fun e1 => hV nh nw nd nx nk nl ns nt nb nc rsl rsr rwd rbw rcf rcs rct rcw rtk ren rtg rce rbx rst rbn rbt rht rtt rnu rbv rhd rtl mu w ws ty cm lc e1 hY
        cases st with
        | nil =>
          have e0 : nh = 0 := c1
          subst e0
          exact br_t rfl (br_t rfl (br_t (by decide) (nm_r (nI_1 tn) (x_stop (hV' h)))))
        | cons E st =>
          have hlen : nh < 1000 := by
            obtain ⟨_, ⟨lim, hko⟩, _, _⟩ := h
            cases E with
            | none =>
              obtain ⟨d', q1, q2, q3, _⟩ := hko
              simp only [List.length_cons] at c1
              omega
            | some E =>
              obtain ⟨g, t, s, e, rho⟩ := E
              obtain ⟨hfr, _, _, _, _, ws', _, q3, _⟩ := hko
              have n24 := (lib1 hlib hfr.1 hfr.2.1).1.1
              have ht := hfr.2.2.1
              simp only [List.length_cons] at c1
              omega
          simp only [List.length_cons] at c1
          exact br_t rfl (br_t rfl (br_f (nI_nle (by omega) (by omega)) (nm_r (nI_1 tn) (ihN (fu + 1) (tn + 1) nh nw nd nx nk nl ns nt nb nc rsl rsr rwd rbw rcf rcs rct rcw rtk ren rtg rce rbx rst rbn rbt rht rtt rnu rbv rhd rtl E st w ws ty cm lc hfu htn h hY))))
      · intro nh nw nd nx nk nl ns nt nb nc rsl rsr rwd rbw rcf rcs rct rcw rtk ren rtg rce rbx rst rbn rbt rht rtt rnu rbv rhd rtl c xk xl xw xx xh vt vl' vk vv' vb vc hc hY
        obtain ⟨fu, rfl⟩ : ∃ g, fu = g + 1 := ⟨fu - 1, by omega⟩
        exact br_f hc (nm_r (nI_1 tn) (x_stop (hE nh nw nd nx nk nl ns nt nb nc rsl rsr rwd rbw rcf rcs rct rcw rtk ren rtg rce rbx rst rbn rbt rht rtt rnu rbv rhd rtl c xk xl xw xx xh vt vl' vk vv' vb vc hc hY)))
    refine ⟨fun fu tn => ?_, fun fu tn => ?_⟩
    · intro nh nw nd nx nk nl ns nt nb nc rsl rsr rwd rbw rcf rcs rct rcw rtk ren rtg rce rbx rst rbn rbt rht rtt rnu rbv rhd rtl g t e rho st ws ty cm lc hfu htn h hY
      obtain ⟨fu, rfl⟩ : ∃ g, fu = g + 1 := ⟨fu - 1, by omega⟩
      have n24 := (lib1 hlib h.2.1.1 h.2.1.2.1).1.1
      have hg := h.2.1.1
      have ht := h.2.1.2.2.1
      exact br_f (nI_ge (b := 1000000) (by omega) (by omega)) (br_f n1_0 (br_f (ni_ne1 (by omega)) (st_A hlib hmx hmy (hk fu tn (by omega) (by omega)) h hY)))
    · intro nh nw nd nx nk nl ns nt nb nc rsl rsr rwd rbw rcf rcs rct rcw rtk ren rtg rce rbx rst rbn rbt rht rtt rnu rbv rhd rtl E st w ws ty cm lc hfu htn h hY
      obtain ⟨fu, rfl⟩ : ∃ g, fu = g + 1 := ⟨fu - 1, by omega⟩
      exact br_f (nI_ge (b := 1000000) (by omega) (by omega)) (br_f n1_0 (br_t rfl (st_N hlib hmx hmy (hk fu tn (by omega) (by omega)) h hY)))

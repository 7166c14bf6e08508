variable {f_saidPlace f_instanceCount f_nodeCount f_equationCount f_stackCount f_wordCount f_depth f_cellCount f_consCount f_closureCount f_stepCount f_runAnswer f_writtenCount : Int32} {a_kinds a_values a_spans a_bounds a_binders a_lengths a_parameterCounts a_typeCodes a_typeLengths a_instanceFunctions a_nodeKinds a_nodeLefts a_nodeRights a_nodeSizes a_equationLefts a_equationRights a_stackLefts a_stackRights a_words a_boundWords a_cellFirsts a_cellSeconds a_closureTokens a_closureWords a_written : Nat → Int32}
variable {yf_place yf_points yf_names yf_textEnd yf_made yf_entry yf_waiting yf_values yf_bound yf_cells yf_conses yf_lams yf_steps yf_atWork yf_end yf_writtenCount : Int32} {ya_kind ya_up ya_turn ya_depth ya_value ya_below ya_length ya_parameters ya_codes ya_codeCount ya_form ya_colour ya_same ya_one ya_two ya_todo ya_numbered ya_text ya_ofFunction ya_codeEnd ya_instance ya_token ya_env ya_tag ya_cellEnv ya_boundNext ya_step ya_boundNumber ya_boundTag ya_headTag ya_tailTag ya_number ya_boundValue ya_head ya_tail ya_written : Nat → Int32}
variable {ln P : Nat → Nat} {kN : Nat → Nat → Nat} {vl : Nat → Nat → Int32} {oc sp bd bi : Nat → Nat → Nat} {cod : Nat → List Nat}
theorem x_write {post : SX → Prop} {w : Nat} {p0 : Int32} (hw : w < 400) (hp : post (f_saidPlace, f_instanceCount, f_nodeCount, f_equationCount, f_stackCount, f_wordCount, f_depth, f_cellCount, f_consCount, f_closureCount, f_stepCount, f_runAnswer, (nI (w + 1)), a_kinds, a_values, a_spans, a_bounds, a_binders, a_lengths, a_parameterCounts, a_typeCodes, a_typeLengths, a_instanceFunctions, a_nodeKinds, a_nodeLefts, a_nodeRights, a_nodeSizes, a_equationLefts, a_equationRights, a_stackLefts, a_stackRights, a_words, a_boundWords, a_cellFirsts, a_cellSeconds, a_closureTokens, a_closureWords, (upd a_written w p0))) : wpX_write post (f_saidPlace, f_instanceCount, f_nodeCount, f_equationCount, f_stackCount, f_wordCount, f_depth, f_cellCount, f_consCount, f_closureCount, f_stepCount, f_runAnswer, (nI w), a_kinds, a_values, a_spans, a_bounds, a_binders, a_lengths, a_parameterCounts, a_typeCodes, a_typeLengths, a_instanceFunctions, a_nodeKinds, a_nodeLefts, a_nodeRights, a_nodeSizes, a_equationLefts, a_equationRights, a_stackLefts, a_stackRights, a_words, a_boundWords, a_cellFirsts, a_cellSeconds, a_closureTokens, a_closureWords, a_written) p0 :=
  br_f (nI_ge (b := 400) (by omega) (by omega)) (And.intro (pk_in w 400 hw) (nm_r (e' := upd a_written w p0) (by rw [nI_clamp (by omega)]) (nm_r (nI_1 w) hp)))
/-- Y takes what is to be written next -/
theorem y_wgo {Q : SY → Prop} {n v wc : Nat} {tgA nuA : Nat → Int32} {t k : Int32} (hv : v < 1000) (hw : wc < 400) (h1 : tgA v = t) (h2 : nuA v = k)
    (h54 : (t = 2 ∨ t = 3) → wY_writeOut_54 Q (wY_writeOut_0 Q n) t k yf_place yf_points yf_names yf_textEnd yf_made yf_entry yf_waiting (nI v) yf_bound yf_cells yf_conses yf_lams yf_steps yf_atWork yf_end (nI wc) ya_kind ya_up ya_turn ya_depth ya_value ya_below ya_length ya_parameters ya_codes ya_codeCount ya_form ya_colour ya_same ya_one ya_two ya_todo ya_numbered ya_text ya_ofFunction ya_codeEnd ya_instance ya_token ya_env tgA ya_cellEnv ya_boundNext ya_step ya_boundNumber ya_boundTag ya_headTag ya_tailTag nuA ya_boundValue ya_head ya_tail ya_written) (h78 : t ≠ 2 → t ≠ 3 → wY_writeOut_78 Q (wY_writeOut_0 Q n) t k yf_place yf_points yf_names yf_textEnd yf_made yf_entry yf_waiting (nI v) yf_bound yf_cells yf_conses yf_lams yf_steps yf_atWork yf_end (nI wc) ya_kind ya_up ya_turn ya_depth ya_value ya_below ya_length ya_parameters ya_codes ya_codeCount ya_form ya_colour ya_same ya_one ya_two ya_todo ya_numbered ya_text ya_ofFunction ya_codeEnd ya_instance ya_token ya_env tgA ya_cellEnv ya_boundNext ya_step ya_boundNumber ya_boundTag ya_headTag ya_tailTag nuA ya_boundValue ya_head ya_tail ya_written) :
    wY_writeOut_0 Q (n + 1) yf_place yf_points yf_names yf_textEnd yf_made yf_entry yf_waiting (nI (v + 1)) yf_bound yf_cells yf_conses yf_lams yf_steps yf_atWork yf_end (nI wc) ya_kind ya_up ya_turn ya_depth ya_value ya_below ya_length ya_parameters ya_codes ya_codeCount ya_form ya_colour ya_same ya_one ya_two ya_todo ya_numbered ya_text ya_ofFunction ya_codeEnd ya_instance ya_token ya_env tgA ya_cellEnv ya_boundNext ya_step ya_boundNumber ya_boundTag ya_headTag ya_tailTag nuA ya_boundValue ya_head ya_tail ya_written := by
  have e1 : nI (v + 1) - 1 = nI v := nI_pred v
  have cv : (nI v).toNatClampNeg = v := nI_clamp (by omega)
  refine br_f (nI_nle (by omega) (by omega)) (br_f (nI_ge (b := 400) (by omega) (by omega)) (nm_r e1 (And.intro (pk_in v 1200 (by omega) e1) (nm_r (e' := t) (by rw [e1, cv, h1]) (And.intro (pk_in v 1200 (by omega)) (nm_r (e' := k) (by rw [cv, h2]) ?_))))))
  exact br_c (fun z => h54 (Or.inl z)) (fun z2 => br_c (fun z => h54 (Or.inr z)) (fun z3 => h78 z2 z3))
/-- the value of a run, written out -/
theorem wr_loop {post : SX → Prop} {B : (SY → Prop) → Prop} {nc nb nx nl nk : Nat} {ty : Nat → mt_T} {cm lc : Nat → Nat} {bn bx bt bv ct cw ce : Nat → Int32} {L : List Nat} {tau : Nat → mt_T} (hnx : nx ≤ 4000) (hnk : nk ≤ 200) (hnc : nc ≤ 2500)
    (hcell : ∀ i, i < nc → ce_ok ln P kN vl oc sp bd bi cod nc ty cm nb bn bx bt bv nx nl nk lc a_cellFirsts a_cellSeconds ct cw ya_headTag ya_tailTag ya_head ya_tail ce i)
    (hL : L.length ≤ 14) (hc : ∀ k, k < L.length → a_typeCodes (210 + k) = nI (L.getD k 0) ∧ L.getD k 0 < 100) (htk : tk_at L tau)
    (hfin : ∀ (sc : Int32) (sl sr W : Nat → Int32) (wc : Nat) (yv : Int32) (tgA nuA V : Nat → Int32), wc ≤ 400 → (∀ k, k < wc → W k = V k) → (∀ Q : SY → Prop, Q (yf_place, yf_points, yf_names, yf_textEnd, yf_made, yf_entry, yf_waiting, yv, yf_bound, yf_cells, yf_conses, yf_lams, yf_steps, yf_atWork, yf_end, (nI wc), ya_kind, ya_up, ya_turn, ya_depth, ya_value, ya_below, ya_length, ya_parameters, ya_codes, ya_codeCount, ya_form, ya_colour, ya_same, ya_one, ya_two, ya_todo, ya_numbered, ya_text, ya_ofFunction, ya_codeEnd, ya_instance, ya_token, ya_env, tgA, ya_cellEnv, ya_boundNext, ya_step, ya_boundNumber, ya_boundTag, ya_headTag, ya_tailTag, nuA, ya_boundValue, ya_head, ya_tail, V) → B Q) → post (f_saidPlace, f_instanceCount, f_nodeCount, f_equationCount, sc, f_wordCount, f_depth, f_cellCount, f_consCount, f_closureCount, f_stepCount, f_runAnswer, (nI wc), a_kinds, a_values, a_spans, a_bounds, a_binders, a_lengths, a_parameterCounts, a_typeCodes, a_typeLengths, a_instanceFunctions, a_nodeKinds, a_nodeLefts, a_nodeRights, a_nodeSizes, a_equationLefts, a_equationRights, sl, sr, a_words, a_boundWords, a_cellFirsts, a_cellSeconds, a_closureTokens, a_closureWords, W)) :
    ∀ mu fu tn (st : List ZE) R (sl sr W : Nat → Int32) (wc : Nat) (tgA nuA V : Nat → Int32), 2 * mu + 1 < fu → tn + 2 * mu < 1000000 → zx cm sl sr st → zy tgA nuA st → zv nc ty cm L tau st → zr st R → wc ≤ 400 → (∀ k, k < wc → W k = V k) → 30 * (400 - wc) + 30 * (16 - zT st) + zm st ≤ mu →
      (∀ Q : SY → Prop, (∃ n, wY_writeOut_0 Q n yf_place yf_points yf_names yf_textEnd yf_made yf_entry yf_waiting (nI (yct st)) yf_bound yf_cells yf_conses yf_lams yf_steps yf_atWork yf_end (nI wc) ya_kind ya_up ya_turn ya_depth ya_value ya_below ya_length ya_parameters ya_codes ya_codeCount ya_form ya_colour ya_same ya_one ya_two ya_todo ya_numbered ya_text ya_ofFunction ya_codeEnd ya_instance ya_token ya_env tgA ya_cellEnv ya_boundNext ya_step ya_boundNumber ya_boundTag ya_headTag ya_tailTag nuA ya_boundValue ya_head ya_tail V) → B Q) →
      wX_writeValue_15 post fu (nI tn) f_saidPlace f_instanceCount f_nodeCount f_equationCount (nI st.length) f_wordCount f_depth f_cellCount f_consCount f_closureCount f_stepCount f_runAnswer (nI wc) a_kinds a_values a_spans a_bounds a_binders a_lengths a_parameterCounts a_typeCodes a_typeLengths a_instanceFunctions a_nodeKinds a_nodeLefts a_nodeRights a_nodeSizes a_equationLefts a_equationRights sl sr a_words a_boundWords a_cellFirsts a_cellSeconds a_closureTokens a_closureWords W := by
  intro mu
  induction mu with
  | zero =>
    intro fu tn st R sl sr W wc tgA nuA V _ _ _ _ _ hr _ _ hm _
    have := zr_len st R hr
    have := (zT_len st).1
    omega
  | succ mu ih =>
    intro fu tn st R sl sr W wc tgA nuA V hfu htn hzx hzy hzv hzr hwc hW hm hY
    obtain ⟨fu, rfl⟩ : ∃ g, fu = g + 1 := ⟨fu - 1, by omega⟩
    have hlen := zr_len st R hzr
    have hzl := zT_len st
    -- the end
    have done : ∀ {fu' tn' : Nat} {sn yn : Nat} {sl' sr' W' tgB nuB V' : Nat → Int32} {wc' : Nat}, wc' = 400 → (∀ k, k < wc' → W' k = V' k) → (∀ Q : SY → Prop, (∃ n, wY_writeOut_0 Q n yf_place yf_points yf_names yf_textEnd yf_made yf_entry yf_waiting (nI yn) yf_bound yf_cells yf_conses yf_lams yf_steps yf_atWork yf_end (nI wc') ya_kind ya_up ya_turn ya_depth ya_value ya_below ya_length ya_parameters ya_codes ya_codeCount ya_form ya_colour ya_same ya_one ya_two ya_todo ya_numbered ya_text ya_ofFunction ya_codeEnd ya_instance ya_token ya_env tgB ya_cellEnv ya_boundNext ya_step ya_boundNumber ya_boundTag ya_headTag ya_tailTag nuB ya_boundValue ya_head ya_tail V') → B Q) →
        wX_writeValue_15 post (fu' + 1) (nI tn') f_saidPlace f_instanceCount f_nodeCount f_equationCount (nI sn) f_wordCount f_depth f_cellCount f_consCount f_closureCount f_stepCount f_runAnswer (nI wc') a_kinds a_values a_spans a_bounds a_binders a_lengths a_parameterCounts a_typeCodes a_typeLengths a_instanceFunctions a_nodeKinds a_nodeLefts a_nodeRights a_nodeSizes a_equationLefts a_equationRights sl' sr' a_words a_boundWords a_cellFirsts a_cellSeconds a_closureTokens a_closureWords W' := by
      intro fu' tn' sn yn sl' sr' W' tgB nuB V' wc' h4 hW' hY'
      have hp := hfin (nI sn) sl' sr' W' wc' (nI yn) tgB nuB V' (by omega) hW' (fun Q hq => hY' Q ⟨1, br_c (fun _ => hq) (fun _ => br_t (by rw [h4]; decide) hq)⟩)
      exact br_c (fun _ => hp) (fun _ => br_c (fun _ => hp) (fun _ => br_t (by rw [h4]; decide) hp))
    cases st with
    | nil =>
      have hp := hfin (nI 0) sl sr W wc (nI 0) tgA nuA V hwc hW (fun Q hq => hY Q ⟨1, br_t (by decide) hq⟩)
      exact br_c (fun _ => hp) (fun _ => br_t (by decide) hp)
    | cons E st =>
      by_cases h400 : wc = 400
      · exact done h400 hW hY
      have hw : wc < 400 := by omega
      simp only [List.length_cons] at hlen
      have hst : st.length < 20 := by omega
      have cs : (nI st.length).toNatClampNeg = st.length := nI_clamp (by omega)
      have hyc := (zT_len st).2
      have hzt := (zT_len st).1
      -- X takes the top
      have xgo : ∀ {fu' tn' : Nat} {sl' sr' W' : Nat → Int32} {x2 x3 : Int32} {wc' : Nat}, tn' < 1000000 → wc' < 400 → sl' st.length = x2 → sr' st.length = x3 →
          ((x3 < 0 → (((x2 = 0 → (∀ x1_50, x1_50 = nI tn' + 1 → wX_writeValue_15 post fu' x1_50 f_saidPlace f_instanceCount f_nodeCount f_equationCount (nI st.length) f_wordCount f_depth f_cellCount f_consCount f_closureCount f_stepCount f_runAnswer (nI wc') a_kinds a_values a_spans a_bounds a_binders a_lengths a_parameterCounts a_typeCodes a_typeLengths a_instanceFunctions a_nodeKinds a_nodeLefts a_nodeRights a_nodeSizes a_equationLefts a_equationRights sl' sr' a_words a_boundWords a_cellFirsts a_cellSeconds a_closureTokens a_closureWords W')) ∧ (¬ x2 = 0 → (vp_in x2 4825 ∧ (wpX_push (fun u => match u with | (f_saidPlace, f_instanceCount, f_nodeCount, f_equationCount, f_stackCount, f_wordCount, f_depth, f_cellCount, f_consCount, f_closureCount, f_stepCount, f_runAnswer, f_writtenCount, a_kinds, a_values, a_spans, a_bounds, a_binders, a_lengths, a_parameterCounts, a_typeCodes, a_typeLengths, a_instanceFunctions, a_nodeKinds, a_nodeLefts, a_nodeRights, a_nodeSizes, a_equationLefts, a_equationRights, a_stackLefts, a_stackRights, a_words, a_boundWords, a_cellFirsts, a_cellSeconds, a_closureTokens, a_closureWords, a_written) => (vp_in x2 4825 ∧ (wpX_push (fun u => match u with | (f_saidPlace, f_instanceCount, f_nodeCount, f_equationCount, f_stackCount, f_wordCount, f_depth, f_cellCount, f_consCount, f_closureCount, f_stepCount, f_runAnswer, f_writtenCount, a_kinds, a_values, a_spans, a_bounds, a_binders, a_lengths, a_parameterCounts, a_typeCodes, a_typeLengths, a_instanceFunctions, a_nodeKinds, a_nodeLefts, a_nodeRights, a_nodeSizes, a_equationLefts, a_equationRights, a_stackLefts, a_stackRights, a_words, a_boundWords, a_cellFirsts, a_cellSeconds, a_closureTokens, a_closureWords, a_written) => (∀ x1_131, x1_131 = nI tn' + 1 → wX_writeValue_15 post fu' x1_131 f_saidPlace f_instanceCount f_nodeCount f_equationCount f_stackCount f_wordCount f_depth f_cellCount f_consCount f_closureCount f_stepCount f_runAnswer f_writtenCount a_kinds a_values a_spans a_bounds a_binders a_lengths a_parameterCounts a_typeCodes a_typeLengths a_instanceFunctions a_nodeKinds a_nodeLefts a_nodeRights a_nodeSizes a_equationLefts a_equationRights a_stackLefts a_stackRights a_words a_boundWords a_cellFirsts a_cellSeconds a_closureTokens a_closureWords a_written)) (f_saidPlace, f_instanceCount, f_nodeCount, f_equationCount, f_stackCount, f_wordCount, f_depth, f_cellCount, f_consCount, f_closureCount, f_stepCount, f_runAnswer, f_writtenCount, a_kinds, a_values, a_spans, a_bounds, a_binders, a_lengths, a_parameterCounts, a_typeCodes, a_typeLengths, a_instanceFunctions, a_nodeKinds, a_nodeLefts, a_nodeRights, a_nodeSizes, a_equationLefts, a_equationRights, a_stackLefts, a_stackRights, a_words, a_boundWords, a_cellFirsts, a_cellSeconds, a_closureTokens, a_closureWords, a_written) (a_cellFirsts x2.toNatClampNeg) ((-1) - x3)))) (f_saidPlace, f_instanceCount, f_nodeCount, f_equationCount, (nI st.length), f_wordCount, f_depth, f_cellCount, f_consCount, f_closureCount, f_stepCount, f_runAnswer, (nI wc'), a_kinds, a_values, a_spans, a_bounds, a_binders, a_lengths, a_parameterCounts, a_typeCodes, a_typeLengths, a_instanceFunctions, a_nodeKinds, a_nodeLefts, a_nodeRights, a_nodeSizes, a_equationLefts, a_equationRights, sl', sr', a_words, a_boundWords, a_cellFirsts, a_cellSeconds, a_closureTokens, a_closureWords, W') (a_cellSeconds x2.toNatClampNeg) x3)))))) ∧ (¬ x3 < 0 → (wpX_writeWord (fun u => match u with | (f_saidPlace, f_instanceCount, f_nodeCount, f_equationCount, f_stackCount, f_wordCount, f_depth, f_cellCount, f_consCount, f_closureCount, f_stepCount, f_runAnswer, f_writtenCount, a_kinds, a_values, a_spans, a_bounds, a_binders, a_lengths, a_parameterCounts, a_typeCodes, a_typeLengths, a_instanceFunctions, a_nodeKinds, a_nodeLefts, a_nodeRights, a_nodeSizes, a_equationLefts, a_equationRights, a_stackLefts, a_stackRights, a_words, a_boundWords, a_cellFirsts, a_cellSeconds, a_closureTokens, a_closureWords, a_written) => (∀ x1_171, x1_171 = nI tn' + 1 → wX_writeValue_15 post fu' x1_171 f_saidPlace f_instanceCount f_nodeCount f_equationCount f_stackCount f_wordCount f_depth f_cellCount f_consCount f_closureCount f_stepCount f_runAnswer f_writtenCount a_kinds a_values a_spans a_bounds a_binders a_lengths a_parameterCounts a_typeCodes a_typeLengths a_instanceFunctions a_nodeKinds a_nodeLefts a_nodeRights a_nodeSizes a_equationLefts a_equationRights a_stackLefts a_stackRights a_words a_boundWords a_cellFirsts a_cellSeconds a_closureTokens a_closureWords a_written)) (f_saidPlace, f_instanceCount, f_nodeCount, f_equationCount, (nI st.length), f_wordCount, f_depth, f_cellCount, f_consCount, f_closureCount, f_stepCount, f_runAnswer, (nI wc'), a_kinds, a_values, a_spans, a_bounds, a_binders, a_lengths, a_parameterCounts, a_typeCodes, a_typeLengths, a_instanceFunctions, a_nodeKinds, a_nodeLefts, a_nodeRights, a_nodeSizes, a_equationLefts, a_equationRights, sl', sr', a_words, a_boundWords, a_cellFirsts, a_cellSeconds, a_closureTokens, a_closureWords, W') x2 x3))) →
          wX_writeValue_15 post (fu' + 1) (nI tn') f_saidPlace f_instanceCount f_nodeCount f_equationCount (nI (st.length + 1)) f_wordCount f_depth f_cellCount f_consCount f_closureCount f_stepCount f_runAnswer (nI wc') a_kinds a_values a_spans a_bounds a_binders a_lengths a_parameterCounts a_typeCodes a_typeLengths a_instanceFunctions a_nodeKinds a_nodeLefts a_nodeRights a_nodeSizes a_equationLefts a_equationRights sl' sr' a_words a_boundWords a_cellFirsts a_cellSeconds a_closureTokens a_closureWords W' := by
        intro fu' tn' sl' sr' W' x2 x3 wc' h1 h2 h3 h4 hh
        exact br_f (nI_ge (b := 1000000) (by omega) (by omega)) (br_f (nI_nle (by omega) (by omega)) (br_f (nI_ge (b := 400) (by omega) (by omega)) (nm_r (nI_pred st.length) (And.intro (pk_in st.length 525 (by omega)) (nm_r (e' := x2) (by rw [cs, h3]) (And.intro (pk_in st.length 525 (by omega)) (nm_r (e' := x3) (by rw [cs, h4]) hh)))))))
      -- the rest of a list: X expands it, Y has expanded it
      have rest : ∀ {fu' tn' : Nat} {sl' sr' W' tgB nuB V' : Nat → Int32} {wc' p i j : Nat} {a b : mt_T} {R' : Nat}, 2 * mu + 1 < fu' → tn' + 1 + 2 * mu < 1000000 → wc' < 400 → (∀ k, k < wc' → W' k = V' k) → sl' st.length = nI (cm i) → sr' st.length = (-1) - nI (210 + p) → zx cm sl' sr' st → zv nc ty cm L tau st → zr st R' → (mt_enc a).length < R' → p < L.length → tau p = a → i < nc → ty i = .branch 3 a b →
          30 * (400 - wc') + 30 * (16 - zT st) + (1 + zm st) ≤ mu + 1 → (∀ (o : Option Nat), (∀ j, o = some j → j < nc ∧ ty j = .branch 3 a b) → (o = none → a_cellSeconds (cm i) = 0 ∧ ya_tailTag i ≠ 3) → (∀ j, o = some j → a_cellSeconds (cm i) = nI (cm j) ∧ ya_tailTag i = 3 ∧ ya_tail i = nI j) →
            zy tgB nuB ((p, a, some (ya_headTag i, ya_head i, a_cellFirsts (cm i)), none) :: (p, a, none, o) :: st) ∧ (∀ Q : SY → Prop, (∃ n, wY_writeOut_0 Q n yf_place yf_points yf_names yf_textEnd yf_made yf_entry yf_waiting (nI (yct ((p, a, some (ya_headTag i, ya_head i, a_cellFirsts (cm i)), none) :: (p, a, none, o) :: st))) yf_bound yf_cells yf_conses yf_lams yf_steps yf_atWork yf_end (nI wc') ya_kind ya_up ya_turn ya_depth ya_value ya_below ya_length ya_parameters ya_codes ya_codeCount ya_form ya_colour ya_same ya_one ya_two ya_todo ya_numbered ya_text ya_ofFunction ya_codeEnd ya_instance ya_token ya_env tgB ya_cellEnv ya_boundNext ya_step ya_boundNumber ya_boundTag ya_headTag ya_tailTag nuB ya_boundValue ya_head ya_tail V') → B Q)) →
          wX_writeValue_15 post (fu' + 1) (nI tn') f_saidPlace f_instanceCount f_nodeCount f_equationCount (nI (st.length + 1)) f_wordCount f_depth f_cellCount f_consCount f_closureCount f_stepCount f_runAnswer (nI wc') a_kinds a_values a_spans a_bounds a_binders a_lengths a_parameterCounts a_typeCodes a_typeLengths a_instanceFunctions a_nodeKinds a_nodeLefts a_nodeRights a_nodeSizes a_equationLefts a_equationRights sl' sr' a_words a_boundWords a_cellFirsts a_cellSeconds a_closureTokens a_closureWords W' := by
        intro fu' tn' sl' sr' W' tgB nuB V' wc' p i j a b R' h1 h2 h3 h4 h5 h6 h7 h7v h8 h9 h10 h11 h12 h13 h14 h15
        obtain ⟨q1, q2, q3, q4, q5, q6⟩ := ce_list (hcell i h12) h13
        obtain ⟨k1, k2, k3, k4⟩ := htk p h10
        rw [h11] at k3
        have cc : (nI (cm i)).toNatClampNeg = cm i := nI_clamp (by omega)
        have ic : vp_in (nI (cm i)) 4825 := pk_in (cm i) 4825 (by omega)
        have hne := mt_enc_ne a
        have hlr := zr_len st R' h8
        -- o tells whether something is left
        obtain ⟨o, o1, o2, o3, o4⟩ : ∃ o : Option Nat, (∀ j, o = some j → j < nc ∧ ty j = .branch 3 a b) ∧ (o = none → a_cellSeconds (cm i) = 0 ∧ ya_tailTag i ≠ 3) ∧ (∀ j, o = some j → a_cellSeconds (cm i) = nI (cm j) ∧ ya_tailTag i = 3 ∧ ya_tail i = nI j) ∧ (o = none ∨ ∃ j, o = some j) := by
          rcases q6 with ⟨y1, y2, _⟩ | ⟨j, j1, j2, j3, j4, j5, _⟩
          · exact ⟨none, (fun j z => nomatch z), (fun _ => ⟨y2, by rw [y1]; decide⟩), (fun j z => nomatch z), Or.inl rfl⟩
          · refine ⟨some j, fun j' z => ?_, (fun z => nomatch z), fun j' z => ?_, Or.inr ⟨j, rfl⟩⟩
            · injection z with z; subst z; exact ⟨by omega, j5⟩
            · injection z with z; subst z; exact ⟨j4, j2, j3⟩
        obtain ⟨z1, z2⟩ := h15 o o1 o2 o3
        refine xgo (by omega) h3 h5 h6 (br_t (ng_lt (by omega)) (br_f (fun w => by have := (nI0 (n := cm i) (by omega)).mp w; omega) (And.intro ic ?_)))
        rw [cc]
        refine x_push (by omega) (And.intro ic ?_)
        rw [ng_ng]
        refine x_push (by omega) (nm_r (nI_1 tn') ?_)
        refine ih fu' (tn' + 1) ((p, a, some (ya_headTag i, ya_head i, a_cellFirsts (cm i)), none) :: (p, a, none, o) :: st) 0 _ _ W' wc' tgB nuB V' h1 (by omega) ?_ z1 ⟨h10, h11, vv_ext q3 (by omega) (fun _ _ => ⟨rfl, rfl⟩), h10, h11, fun j z => ⟨(o1 j z).1, b, (o1 j z).2⟩, h7v⟩ ⟨_, ⟨R', h8, rfl, h9⟩, by omega⟩ (by omega) h4 ?_ z2
        · refine ⟨?_, ?_, ?_⟩
          · show upd (upd sl' st.length _) (st.length + 1) _ (st.length + 1) = _
            rw [pk_us]
          · show upd (upd sr' st.length _) (st.length + 1) _ (st.length + 1) = _
            rw [pk_us]
          · have hx2 : upd (upd sl' st.length (a_cellSeconds (cm i))) (st.length + 1) (a_cellFirsts (cm i)) st.length = a_cellSeconds (cm i) := by rw [pk_un (by omega), pk_us]
            have hx3 : upd (upd sr' st.length ((-1) - nI (210 + p))) (st.length + 1) (nI (210 + p)) st.length = (-1) - nI (210 + p) := by rw [pk_un (by omega), pk_us]
            have hx4 := zx_ext (sl' := upd (upd sl' st.length (a_cellSeconds (cm i))) (st.length + 1) (a_cellFirsts (cm i))) (sr' := upd (upd sr' st.length ((-1) - nI (210 + p))) (st.length + 1) (nI (210 + p))) st (fun j hj => ⟨by rw [pk_un (by omega), pk_un (by omega)], by rw [pk_un (by omega), pk_un (by omega)]⟩) h7
            rcases o4 with e | ⟨j, e⟩
            · subst e; exact ⟨by rw [hx2]; exact (o2 rfl).1, hx3, hx4⟩
            · subst e; exact ⟨by rw [hx2]; exact (o3 j rfl).1, hx3, hx4⟩
        · exact ar_z5 (z := zT st) (m := zm st) (a := (mt_enc a).length) (by omega) (by omega) h14
      have go0 : nI (st.length + 1) = nI (E :: st).length := by rw [List.length_cons]
      rw [← go0]
      obtain ⟨p, T, v, o⟩ := E
      have hne := mt_enc_ne T
      cases v with
      | none =>
        obtain ⟨R', r1, r2, r3⟩ := hzr
        have hm' : 30 * (400 - wc) + 30 * (16 - zT st) + (1 + zm st) ≤ mu + 1 := hm
        obtain ⟨v1, v2, v3, v4⟩ := hzv
        cases o with
        | none =>
          obtain ⟨x1, x2, x3⟩ := hzx
          refine xgo (by omega) hw x1 x2 (br_t (ng_lt (by omega)) (br_t rfl (nm_r (nI_1 tn) ?_)))
          exact ih fu (tn + 1) st R' sl sr W wc tgA nuA V (by omega) (by omega) x3 hzy v4 r1 hwc hW (ar_z4 hm') hY
        | some i =>
          obtain ⟨x1, x2, x3⟩ := hzx
          obtain ⟨y1, y2, y3⟩ := hzy
          obtain ⟨i1, b, i2⟩ := v3 i rfl
          obtain ⟨q1, q2, q3, q4, q5, q6⟩ := ce_list (hcell i i1) i2
          have ci : (nI i).toNatClampNeg = i := nI_clamp (by omega)
          have ii : vp_in (nI i) 3000 := pk_in i 3000 (by omega)
          obtain ⟨kt, kt4, ekt⟩ := vv_tag q3
          have hY5 : ∀ {Q : SY → Prop} {n : Nat}, wY_writeOut_162 Q (wY_writeOut_0 Q n) (nI i) yf_place yf_points yf_names yf_textEnd yf_made yf_entry yf_waiting (nI (yct st)) yf_bound yf_cells yf_conses yf_lams yf_steps yf_atWork yf_end (nI wc) ya_kind ya_up ya_turn ya_depth ya_value ya_below ya_length ya_parameters ya_codes ya_codeCount ya_form ya_colour ya_same ya_one ya_two ya_todo ya_numbered ya_text ya_ofFunction ya_codeEnd ya_instance ya_token ya_env tgA ya_cellEnv ya_boundNext ya_step ya_boundNumber ya_boundTag ya_headTag ya_tailTag nuA ya_boundValue ya_head ya_tail V → B Q := by
            intro Q n hh
            exact hY Q ⟨n + 1, y_wgo (v := yct st) (by omega) hw y1 y2 (fun z => by rcases z with z | z <;> exact absurd z (by decide)) (fun _ _ => br_f (by decide) (br_f (by decide) (br_f (by decide) (br_f (by decide) (br_t rfl hh)))))⟩
          rcases q6 with ⟨t1, t2, t3⟩ | ⟨j, j1, j2, j3, j4, j5, j6⟩
          · refine rest (j := 0) (i := i) (p := p) (a := T) (b := b) (tgB := upd tgA (yct st) (ya_headTag i)) (nuB := upd nuA (yct st) (ya_head i)) (V' := V) (by omega) (by omega) hw hW x1 x2 x3 v4 r1 r3 v1 v2 i1 i2 hm' (fun o o1 o2 o3 => ?_)
            cases o with
            | some j => exact absurd ((o3 j rfl).2.1.symm.trans t1) (by decide)
            | none =>
              refine ⟨⟨pk_us, pk_us, zy_ext st (fun j hj => ⟨pk_un (by omega), pk_un (by omega)⟩) y3⟩, ?_⟩
              rintro Q ⟨n, hn⟩
              refine hY5 (n := n) (And.intro ii ?_)
              rw [ci, t1]
              refine br_f (by decide) (And.intro ii (And.intro ii ?_))
              rw [ci]
              exact y_push (by omega) (by omega) ekt hn
          · refine rest (j := 0) (i := i) (p := p) (a := T) (b := b) (tgB := upd (upd tgA (yct st) 5) (yct st + 1) (ya_headTag i)) (nuB := upd (upd nuA (yct st) (nI j)) (yct st + 1) (ya_head i)) (V' := V) (by omega) (by omega) hw hW x1 x2 x3 v4 r1 r3 v1 v2 i1 i2 hm' (fun o o1 o2 o3 => ?_)
            cases o with
            | none => exact absurd j2 (o2 rfl).2
            | some j' =>
              have ej : j' = j := by
                have := (o3 j' rfl).2.2
                rw [j3] at this
                have hj' := (o1 j' rfl).1
                exact ((nI_eq (by omega) (by omega)).mp this).symm
              subst ej
              refine ⟨⟨pk_us, pk_us, ?_, ?_, zy_ext st (fun j hj => ⟨by rw [pk_un (by omega), pk_un (by omega)], by rw [pk_un (by omega), pk_un (by omega)]⟩) y3⟩, ?_⟩
              · rw [pk_un (by omega), pk_us]
              · rw [pk_un (by omega), pk_us]
              · rintro Q ⟨n, hn⟩
                refine hY5 (n := n) (And.intro ii ?_)
                rw [ci, j2, j3]
                refine br_t rfl (And.intro ii (y_push (k := 5) (by omega) (by omega) rfl (And.intro ii (And.intro ii ?_))))
                rw [ci]
                exact y_push (by omega) (by omega) ekt hn
      | some v =>
        obtain ⟨t, k, x⟩ := v
        obtain ⟨R', r1, r2⟩ := hzr
        have hm' : 30 * (400 - wc) + 30 * (16 - (zT st + 1)) + (2 * (mt_enc T).length + zm st) ≤ mu + 1 := hm
        obtain ⟨v1, v2, v3, v4⟩ := hzv
        obtain ⟨x1, x2, x3⟩ := hzx
        obtain ⟨y1, y2, y3⟩ := hzy
        obtain ⟨k1, k2, k3, k4⟩ := htk p v1
        obtain ⟨c1, c2⟩ := hc p v1
        rw [k2, v2] at c1
        rw [v2] at k1 k3 k4
        have cp : (nI (210 + p)).toNatClampNeg = 210 + p := nI_clamp (by omega)
        have ip : vp_in (nI (210 + p)) 756 := pk_in (210 + p) 756 (by omega)
        have hlr := zr_len st R' r1
        -- one more number
        have fin : ∀ (z : Int32) (Vx : Nat → Int32), (Vx = upd V wc z) → (∀ {Q : SY → Prop} {n : Nat}, wY_writeOut_0 Q n yf_place yf_points yf_names yf_textEnd yf_made yf_entry yf_waiting (nI (yct st)) yf_bound yf_cells yf_conses yf_lams yf_steps yf_atWork yf_end (nI (wc + 1)) ya_kind ya_up ya_turn ya_depth ya_value ya_below ya_length ya_parameters ya_codes ya_codeCount ya_form ya_colour ya_same ya_one ya_two ya_todo ya_numbered ya_text ya_ofFunction ya_codeEnd ya_instance ya_token ya_env tgA ya_cellEnv ya_boundNext ya_step ya_boundNumber ya_boundTag ya_headTag ya_tailTag nuA ya_boundValue ya_head ya_tail Vx → wY_writeOut_0 Q (n + 1) yf_place yf_points yf_names yf_textEnd yf_made yf_entry yf_waiting (nI (yct st + 1)) yf_bound yf_cells yf_conses yf_lams yf_steps yf_atWork yf_end (nI wc) ya_kind ya_up ya_turn ya_depth ya_value ya_below ya_length ya_parameters ya_codes ya_codeCount ya_form ya_colour ya_same ya_one ya_two ya_todo ya_numbered ya_text ya_ofFunction ya_codeEnd ya_instance ya_token ya_env tgA ya_cellEnv ya_boundNext ya_step ya_boundNumber ya_boundTag ya_headTag ya_tailTag nuA ya_boundValue ya_head ya_tail V) →
            wX_writeValue_15 post fu (nI (tn + 1)) f_saidPlace f_instanceCount f_nodeCount f_equationCount (nI st.length) f_wordCount f_depth f_cellCount f_consCount f_closureCount f_stepCount f_runAnswer (nI (wc + 1)) a_kinds a_values a_spans a_bounds a_binders a_lengths a_parameterCounts a_typeCodes a_typeLengths a_instanceFunctions a_nodeKinds a_nodeLefts a_nodeRights a_nodeSizes a_equationLefts a_equationRights sl sr a_words a_boundWords a_cellFirsts a_cellSeconds a_closureTokens a_closureWords (upd W wc z) := by
          intro z Vx hVx hy
          subst hVx
          refine ih fu (tn + 1) st R' sl sr _ (wc + 1) tgA nuA (upd V wc z) (by omega) (by omega) x3 y3 v4 r1 (by omega) (fun k hk => ?_) (ar_z1 hw (by omega) hm' hne) (fun Q ⟨n, hn⟩ => hY Q ⟨n + 1, hy hn⟩)
          by_cases w : k = wc
          · rw [w, pk_us, pk_us]
          · rw [pk_un w, pk_un w]; exact hW k (by omega)
        refine xgo (by omega) hw x1 x2 (br_f (lt0_n (by omega)) (And.intro ip ?_))
        rw [cp, c1]
        have cwc : (nI wc).toNatClampNeg = wc := nI_clamp (by omega)
        have iwc : vp_in (nI wc) 400 := pk_in wc 400 hw
        cases T with
        | leaf nn =>
          obtain ⟨f1, f2⟩ := v3
          have hcd : (mt_hd (.leaf nn : mt_T)) = nn := rfl
          rw [hcd]
          rw [k2, v2, hcd] at c2
          have hl : nn ≠ 2 ∧ nn ≠ 3 ∧ nn ≠ 4 := by
            rcases k1 with z | z | z
            · omega
            · omega
            · omega
          refine nm_e (pk_eq nn 2 (fun z => absurd z hl.1) (fun _ => pk_eq nn 3 (fun z => absurd z hl.2.1) (fun _ => pk_eq nn 4 (fun z => absurd z hl.2.2) (fun _ => x_write hw (nm_r (nI_1 tn) ?_)))))
          rw [f2]
          refine fin k _ rfl (fun {Q n} hn => ?_)
          rw [f1] at y1
          exact y_wgo (by omega) hw y1 y2 (fun z => by rcases z with z | z <;> exact absurd z (by decide)) (fun _ _ => br_t rfl (nm_r (nI_1 wc) (br_t rfl (And.intro iwc (nm_r (e' := upd V wc k) (by rw [cwc]) (br_f (by decide) (br_f (by decide) (br_f (by decide) hn))))))))
        | branch c a b =>
          obtain ⟨t1, t2⟩ := k4 a b c rfl
          have hcd : (mt_hd (.branch c a b : mt_T)) = c := rfl
          rw [hcd]
          have hna := mt_enc_ne a
          rcases k1 with ⟨ec, wa, eb⟩ | ⟨ec, wa, wb⟩
          · -- LIST
            subst ec
            have el : (mt_enc (.branch 3 a b : mt_T)).length = (mt_enc a).length + 1 := by simp [mt_enc]
            rw [el] at hm' r2 k3
            have ep1 : nI (210 + p) + 1 = nI (210 + (p + 1)) := nI_1 (210 + p)
            refine nm_e (br_f (by decide) (br_t rfl ?_))
            rcases v3 with ⟨_, f1, f2, f3⟩ | ⟨i, i1, i2, i3, i4, i5⟩
            · rw [f3]
              have hcnt : ∀ {pp : Int32 → Prop}, pp 0 → wpX_countElements pp (f_saidPlace, f_instanceCount, f_nodeCount, f_equationCount, (nI st.length), f_wordCount, f_depth, f_cellCount, f_consCount, f_closureCount, f_stepCount, f_runAnswer, (nI wc), a_kinds, a_values, a_spans, a_bounds, a_binders, a_lengths, a_parameterCounts, a_typeCodes, a_typeLengths, a_instanceFunctions, a_nodeKinds, a_nodeLefts, a_nodeRights, a_nodeSizes, a_equationLefts, a_equationRights, sl, sr, a_words, a_boundWords, a_cellFirsts, a_cellSeconds, a_closureTokens, a_closureWords, W) 0 := fun hp => Exists.intro 1 (br_f (by decide) (br_t rfl hp))
              refine hcnt (x_write hw (x_push (by omega) (nm_r (nI_1 tn) ?_)))
              rw [ep1]
              refine ih fu (tn + 1) ((p + 1, a, none, none) :: st) (mt_enc a).length _ _ (upd W wc 0) (wc + 1) tgA nuA (upd V wc 0) (by omega) (by omega) ⟨pk_us, pk_us, zx_ext st (fun j hj => ⟨pk_un (by omega), pk_un (by omega)⟩) x3⟩ y3 ⟨by omega, t1, (fun i z => nomatch z), v4⟩ ⟨R', r1, rfl, by omega⟩ (by omega) (fun k hk => ?_) (ar_z3 (z := zT st) (m := zm st) hw (by omega) hm' hna) (fun Q ⟨n, hn⟩ => hY Q ⟨n + 1, ?_⟩)
              · by_cases w : k = wc
                · rw [w, pk_us, pk_us]
                · rw [pk_un w, pk_un w]; exact hW k (by omega)
              · rw [f1] at y1
                refine y_wgo (by omega) hw y1 y2 (fun _ => ?_) (fun z => absurd rfl z)
                have hsz : ∀ {pp : Int32 → Prop}, pp 0 → wpY_size pp (yf_place, yf_points, yf_names, yf_textEnd, yf_made, yf_entry, yf_waiting, (nI (yct st)), yf_bound, yf_cells, yf_conses, yf_lams, yf_steps, yf_atWork, yf_end, (nI wc), ya_kind, ya_up, ya_turn, ya_depth, ya_value, ya_below, ya_length, ya_parameters, ya_codes, ya_codeCount, ya_form, ya_colour, ya_same, ya_one, ya_two, ya_todo, ya_numbered, ya_text, ya_ofFunction, ya_codeEnd, ya_instance, ya_token, ya_env, tgA, ya_cellEnv, ya_boundNext, ya_step, ya_boundNumber, ya_boundTag, ya_headTag, ya_tailTag, nuA, ya_boundValue, ya_head, ya_tail, V) 2 k := fun hp => Exists.intro 1 (br_f (by decide) hp)
                exact hsz (nm_r (nI_1 wc) (And.intro iwc (nm_r (e' := upd V wc 0) (by rw [cwc]) (br_f (by decide) (br_f (by decide) (br_f (by decide) (br_f (by decide) (br_f (by decide) hn))))))))
            · have i6 : t = 3 := by
                rcases i5 with ⟨y, _⟩ | ⟨_, y⟩ | ⟨y, _⟩
                · omega
                · exact y
                · omega
              rw [i3]
              obtain ⟨q1, q2, q3, q4, q5, q6⟩ := ce_list (hcell i i1) i4
              have ci : (nI i).toNatClampNeg = i := nI_clamp (by omega)
              have ii : vp_in (nI i) 3000 := pk_in i 3000 (by omega)
              obtain ⟨kt, kt4, ekt⟩ := vv_tag q3
              refine x_count hnx hnk hcell i1 i4 (x_write hw (x_push (by omega) (nm_r (nI_1 tn) ?_)))
              rw [ep1]
              rw [i6] at y1
              have hW' : ∀ k, k < wc + 1 → upd W wc (nI (lc i)) k = upd V wc (nI (lc i)) k := by
                intro k hk
                by_cases w : k = wc
                · rw [w, pk_us, pk_us]
                · rw [pk_un w, pk_un w]; exact hW k (by omega)
              have hY3 : ∀ {Q : SY → Prop} {n : Nat}, wY_writeOut_162 Q (wY_writeOut_0 Q n) (nI i) yf_place yf_points yf_names yf_textEnd yf_made yf_entry yf_waiting (nI (yct st)) yf_bound yf_cells yf_conses yf_lams yf_steps yf_atWork yf_end (nI (wc + 1)) ya_kind ya_up ya_turn ya_depth ya_value ya_below ya_length ya_parameters ya_codes ya_codeCount ya_form ya_colour ya_same ya_one ya_two ya_todo ya_numbered ya_text ya_ofFunction ya_codeEnd ya_instance ya_token ya_env tgA ya_cellEnv ya_boundNext ya_step ya_boundNumber ya_boundTag ya_headTag ya_tailTag nuA ya_boundValue ya_head ya_tail (upd V wc (nI (lc i))) → B Q := by
                intro Q n hh
                refine hY Q ⟨n + 1, y_wgo (v := yct st) (by omega) hw y1 y2 (fun _ => ?_) (fun _ z => absurd rfl z)⟩
                rw [i2]
                exact y_size (by omega) hcell i1 i4 (nm_r (nI_1 wc) (And.intro iwc (nm_r (e' := upd V wc (nI (lc i))) (by rw [cwc]) (br_f (by decide) (br_f (by decide) (br_f (by decide) (br_t rfl hh)))))))
              have hzx1 : upd sl st.length (nI (cm i)) st.length = nI (cm i) := pk_us
              have hzx2 : upd sr st.length ((-1) - nI (210 + (p + 1))) st.length = (-1) - nI (210 + (p + 1)) := pk_us
              have hzx3 := zx_ext (sl' := upd sl st.length (nI (cm i))) (sr' := upd sr st.length ((-1) - nI (210 + (p + 1)))) st (fun j hj => ⟨pk_un (by omega), pk_un (by omega)⟩) x3
              obtain ⟨fu, rfl⟩ : ∃ g, fu = g + 1 := ⟨fu - 1, by omega⟩
              rcases q6 with ⟨s1, s2, s3⟩ | ⟨j, j1, j2, j3, j4, j5, j6⟩
              · have hYe : ∀ Q : SY → Prop, (∃ n, wY_writeOut_0 Q n yf_place yf_points yf_names yf_textEnd yf_made yf_entry yf_waiting (nI (yct st + 1)) yf_bound yf_cells yf_conses yf_lams yf_steps yf_atWork yf_end (nI (wc + 1)) ya_kind ya_up ya_turn ya_depth ya_value ya_below ya_length ya_parameters ya_codes ya_codeCount ya_form ya_colour ya_same ya_one ya_two ya_todo ya_numbered ya_text ya_ofFunction ya_codeEnd ya_instance ya_token ya_env (upd tgA (yct st) (ya_headTag i)) ya_cellEnv ya_boundNext ya_step ya_boundNumber ya_boundTag ya_headTag ya_tailTag (upd nuA (yct st) (ya_head i)) ya_boundValue ya_head ya_tail (upd V wc (nI (lc i)))) → B Q := by
                  rintro Q ⟨n, hn⟩
                  refine hY3 (n := n) (And.intro ii ?_)
                  rw [ci, s1]
                  refine br_f (by decide) (And.intro ii (And.intro ii ?_))
                  rw [ci]
                  exact y_push (by omega) (by omega) ekt hn
                by_cases w4 : wc + 1 = 400
                · exact done w4 hW' hYe
                · refine rest (j := 0) (i := i) (p := p + 1) (a := a) (b := b) (tgB := upd tgA (yct st) (ya_headTag i)) (nuB := upd nuA (yct st) (ya_head i)) (V' := upd V wc (nI (lc i))) (by omega) (by omega) (by omega) hW' hzx1 hzx2 hzx3 v4 r1 (by omega) (by omega) t1 i1 i4 (Nat.le_succ_of_le (ar_z3 hw (by omega) hm' hna)) (fun o o1 o2 o3 => ?_)
                  cases o with
                  | some j => exact absurd ((o3 j rfl).2.1.symm.trans s1) (by decide)
                  | none => exact ⟨⟨pk_us, pk_us, zy_ext st (fun j hj => ⟨pk_un (by omega), pk_un (by omega)⟩) y3⟩, hYe⟩
              · have hYe : ∀ Q : SY → Prop, (∃ n, wY_writeOut_0 Q n yf_place yf_points yf_names yf_textEnd yf_made yf_entry yf_waiting (nI (yct st + 1 + 1)) yf_bound yf_cells yf_conses yf_lams yf_steps yf_atWork yf_end (nI (wc + 1)) ya_kind ya_up ya_turn ya_depth ya_value ya_below ya_length ya_parameters ya_codes ya_codeCount ya_form ya_colour ya_same ya_one ya_two ya_todo ya_numbered ya_text ya_ofFunction ya_codeEnd ya_instance ya_token ya_env (upd (upd tgA (yct st) 5) (yct st + 1) (ya_headTag i)) ya_cellEnv ya_boundNext ya_step ya_boundNumber ya_boundTag ya_headTag ya_tailTag (upd (upd nuA (yct st) (nI j)) (yct st + 1) (ya_head i)) ya_boundValue ya_head ya_tail (upd V wc (nI (lc i)))) → B Q := by
                  rintro Q ⟨n, hn⟩
                  refine hY3 (n := n) (And.intro ii ?_)
                  rw [ci, j2, j3]
                  refine br_t rfl (And.intro ii (y_push (k := 5) (by omega) (by omega) rfl (And.intro ii (And.intro ii ?_))))
                  rw [ci]
                  exact y_push (by omega) (by omega) ekt hn
                by_cases w4 : wc + 1 = 400
                · exact done w4 hW' hYe
                · refine rest (j := 0) (i := i) (p := p + 1) (a := a) (b := b) (tgB := upd (upd tgA (yct st) 5) (yct st + 1) (ya_headTag i)) (nuB := upd (upd nuA (yct st) (nI j)) (yct st + 1) (ya_head i)) (V' := upd V wc (nI (lc i))) (by omega) (by omega) (by omega) hW' hzx1 hzx2 hzx3 v4 r1 (by omega) (by omega) t1 i1 i4 (Nat.le_succ_of_le (ar_z3 hw (by omega) hm' hna)) (fun o o1 o2 o3 => ?_)
                  cases o with
                  | none => exact absurd j2 (o2 rfl).2
                  | some j' =>
                    have ej : j' = j := by
                      have := (o3 j' rfl).2.2
                      rw [j3] at this
                      have hj' := (o1 j' rfl).1
                      exact ((nI_eq (by omega) (by omega)).mp this).symm
                    subst ej
                    refine ⟨⟨pk_us, pk_us, ?_, ?_, zy_ext st (fun j hj => ⟨by rw [pk_un (by omega), pk_un (by omega)], by rw [pk_un (by omega), pk_un (by omega)]⟩) y3⟩, hYe⟩
                    · rw [pk_un (by omega), pk_us]
                    · rw [pk_un (by omega), pk_us]
          · -- PAIR and ARROW
            have hc3 : ¬ c = 3 := by omega
            have hnb := mt_enc_ne b
            have el : (mt_enc (.branch c a b : mt_T)).length = (mt_enc a).length + (mt_enc b).length + 1 := by simp [mt_enc, hc3]
            rw [el] at hm' r2 k3
            rcases v3 with ⟨z, _⟩ | ⟨i, i1, i2, i3, i4, i5⟩
            · exact absurd z hc3
            rcases ec with ec | ec
            · subst ec
              have i6 : t = 1 := by
                rcases i5 with ⟨_, y⟩ | ⟨y, _⟩ | ⟨y, _⟩
                · exact y
                · omega
                · omega
              rw [i6] at y1
              obtain ⟨q2, q3, q4⟩ : cm i < nx ∧ vv i ty cm a (ya_headTag i) (ya_head i) (a_cellFirsts (cm i)) ∧ vv i ty cm b (ya_tailTag i) (ya_tail i) (a_cellSeconds (cm i)) := by
                rcases hcell i i1 with ⟨a', b', c1, c2, c3, c4, c5⟩ | ⟨a', b', c1, _⟩ | ⟨a', b', c1, _⟩
                · rw [c1] at i4
                  injection i4 with _ e1 e2
                  subst e1 e2
                  exact ⟨c3, c4, c5⟩
                · rw [c1] at i4; injection i4 with y; omega
                · rw [c1] at i4; injection i4 with y; omega
              have cc : (nI (cm i)).toNatClampNeg = cm i := nI_clamp (by omega)
              have ic : vp_in (nI (cm i)) 4825 := pk_in (cm i) 4825 (by omega)
              have ci : (nI i).toNatClampNeg = i := nI_clamp (by omega)
              have ii : vp_in (nI i) 3000 := pk_in i 3000 (by omega)
              obtain ⟨ka, ka4, eka⟩ := vv_tag q3
              obtain ⟨kb, kb4, ekb⟩ := vv_tag q4
              have ep1 : nI (210 + p) + 1 = nI (210 + (p + 1)) := nI_1 (210 + p)
              refine nm_e (br_t rfl ?_)
              rw [ep1, i3]
              refine x_behind hL hc htk (by omega) (And.intro ic ?_)
              rw [t1, cc]
              refine x_push (by omega) (And.intro ic ?_)
              refine x_push (by omega) (nm_r (nI_1 tn) ?_)
              refine ih fu (tn + 1) ((p + 1, a, some (ya_headTag i, ya_head i, a_cellFirsts (cm i)), none) :: (p + 1 + (mt_enc a).length, b, some (ya_tailTag i, ya_tail i, a_cellSeconds (cm i)), none) :: st) (R + 1) _ _ W wc (upd (upd tgA (yct st) (ya_tailTag i)) (yct st + 1) (ya_headTag i)) (upd (upd nuA (yct st) (ya_tail i)) (yct st + 1) (ya_head i)) V (by omega) (by omega) ⟨pk_us, pk_us, ?_, ?_, zx_ext st (fun j hj => ⟨by rw [pk_un (by omega), pk_un (by omega)], by rw [pk_un (by omega), pk_un (by omega)]⟩) x3⟩ ⟨pk_us, pk_us, ?_, ?_, zy_ext st (fun j hj => ⟨by rw [pk_un (by omega), pk_un (by omega)], by rw [pk_un (by omega), pk_un (by omega)]⟩) y3⟩ ⟨by omega, t1, vv_ext q3 (by omega) (fun _ _ => ⟨rfl, rfl⟩), by omega, t2 hc3, vv_ext q4 (by omega) (fun _ _ => ⟨rfl, rfl⟩), v4⟩ ⟨R' - (mt_enc b).length, ⟨R', r1, by omega⟩, by omega⟩ hwc hW (ar_z2 (z := zT st) (m := zm st) (by omega) hm') (fun Q ⟨n, hn⟩ => hY Q ⟨n + 1, ?_⟩)
              · rw [pk_un (by omega), pk_us]
              · rw [pk_un (by omega), pk_us]
              · rw [pk_un (by omega), pk_us]
              · rw [pk_un (by omega), pk_us]
              · refine y_wgo (by omega) hw y1 y2 (fun z => by rcases z with z | z <;> exact absurd z (by decide)) (fun _ _ => br_f (by decide) (br_f (by decide) (br_t rfl ?_)))
                rw [i2]
                refine And.intro ii (And.intro ii ?_)
                rw [ci]
                refine y_push (by omega) (by omega) ekb (And.intro ii (And.intro ii ?_))
                exact y_push (by omega) (by omega) eka (br_f (by decide) (br_f (by decide) hn))
            · subst ec
              have i6 : t = 4 := by
                rcases i5 with ⟨y, _⟩ | ⟨y, _⟩ | ⟨_, y⟩
                · omega
                · omega
                · exact y
              rw [i6] at y1
              refine nm_e (br_f (by decide) (br_f (by decide) (br_t rfl (x_write hw (nm_r (nI_1 tn) ?_)))))
              have hfin' := fin 0 _ rfl (fun {Q n} hn => ?_)
              · exact hfin'
              · exact y_wgo (by omega) hw y1 y2 (fun z => by rcases z with z | z <;> exact absurd z (by decide)) (fun _ _ => br_f (by decide) (br_t rfl (nm_r (nI_1 wc) (br_f (by decide) (And.intro iwc (nm_r (e' := upd V wc 0) (by rw [cwc]) (br_f (by decide) (br_f (by decide) (br_f (by decide) hn)))))))))

variable {f_saidPlace f_instanceCount f_nodeCount f_equationCount f_stackCount f_wordCount f_depth f_cellCount f_consCount f_closureCount f_stepCount f_runAnswer f_writtenCount : Int32} {a_kinds a_values a_spans a_bounds a_binders a_lengths a_parameterCounts a_typeCodes a_typeLengths a_instanceFunctions a_nodeKinds a_nodeLefts a_nodeRights a_nodeSizes a_equationLefts a_equationRights a_stackLefts a_stackRights a_words a_boundWords a_cellFirsts a_cellSeconds a_closureTokens a_closureWords a_written : Nat → Int32}
variable {yf_place yf_points yf_names yf_textEnd yf_made yf_entry yf_waiting yf_values yf_bound yf_cells yf_conses yf_lams yf_steps yf_atWork yf_end yf_writtenCount : Int32} {ya_kind ya_up ya_turn ya_depth ya_value ya_below ya_length ya_parameters ya_codes ya_codeCount ya_form ya_colour ya_same ya_one ya_two ya_todo ya_numbered ya_text ya_ofFunction ya_codeEnd ya_instance ya_token ya_env ya_tag ya_cellEnv ya_boundNext ya_step ya_boundNumber ya_boundTag ya_headTag ya_tailTag ya_number ya_boundValue ya_head ya_tail ya_written : Nat → Int32}
variable {ln P : Nat → Nat} {kN : Nat → Nat → Nat} {vl : Nat → Nat → Int32} {oc sp bd bi : Nat → Nat → Nat} {cod : Nat → List Nat}
theorem lf_vv {nc : Nat} {ty : Nat → mt_T} {cm : Nat → Nat} {T : mt_T} {k : Nat} {tg num x : Int32} (h : vv nc ty cm T tg num x) (e : T = .leaf k) : tg = 0 ∧ x = num := by
  subst e; exact h
/-- ADD, LESS, PAIR, CONS -/
theorem st_two {T0 : mt_T} {px : Int32 → SX → Prop} {B : (Int32 → SY → Prop) → Prop} {mu : Nat} {nh nw nd nx nk nl ns nt nb nc : Nat} {rsl rsr rwd rbw rcf rcs rct rcw rtk ren rtg rce rbx rst rbn rbt rht rtt rnu rbv rhd rtl : Nat → Int32} {g t s : Nat} {e : Int32} {rho : Nat → mt_T} {st : List FE} {w : FV} {ws : List FV} {ty : Nat → mt_T} {cm lc : Nat → Nat} (hlib : lib ln P kN vl oc sp bd bi cod) (hmx : mx_ok ln P kN vl sp bd a_kinds a_values a_spans a_bounds a_lengths a_parameterCounts) (hmy : my_ok ln P kN vl oc sp ya_kind ya_value ya_below ya_parameters)
    (hk : kk ln P kN vl oc sp bd bi cod T0 px B mu f_saidPlace f_instanceCount f_nodeCount f_equationCount f_stackCount f_wordCount f_depth f_cellCount f_consCount f_closureCount f_stepCount f_runAnswer f_writtenCount a_kinds a_values a_spans a_bounds a_binders a_lengths a_parameterCounts a_typeCodes a_typeLengths a_instanceFunctions a_nodeKinds a_nodeLefts a_nodeRights a_nodeSizes a_equationLefts a_equationRights a_stackLefts a_stackRights a_words a_boundWords a_cellFirsts a_cellSeconds a_closureTokens a_closureWords a_written yf_place yf_points yf_names yf_textEnd yf_made yf_entry yf_waiting yf_values yf_bound yf_cells yf_conses yf_lams yf_steps yf_atWork yf_end yf_writtenCount ya_kind ya_up ya_turn ya_depth ya_value ya_below ya_length ya_parameters ya_codes ya_codeCount ya_form ya_colour ya_same ya_one ya_two ya_todo ya_numbered ya_text ya_ofFunction ya_codeEnd ya_instance ya_token ya_env ya_tag ya_cellEnv ya_boundNext ya_step ya_boundNumber ya_boundTag ya_headTag ya_tailTag ya_number ya_boundValue ya_head ya_tail ya_written) (h : rn_ok ln P kN vl oc sp bd bi cod T0 (mu + 1) nh nw nd nx nk nl ns nt nb nc rsl rsr rwd rbw rcf rcs rct rcw rtk ren rtg rce rbx rst rbn rbt rht rtt rnu rbv rhd rtl (some (g, t, s, e, rho) :: st) w ws ty cm lc) (hY : ∀ Q, (∃ n, wY_run_75 Q n yf_place yf_points yf_names yf_textEnd yf_made yf_entry (nI nt) (nI nw) (nI nb) (nI nc) (nI nk) (nI nl) (nI ns) (nI nd) 0 yf_writtenCount ya_kind ya_up ya_turn ya_depth ya_value ya_below ya_length ya_parameters ya_codes ya_codeCount ya_form ya_colour ya_same ya_one ya_two ya_todo ya_numbered ya_text ya_ofFunction ya_codeEnd ya_instance rtk ren rtg rce rbx rst rbn rbt rht rtt rnu rbv rhd rtl ya_written) → B Q) (hkt : kN g t = 12 ∨ kN g t = 13 ∨ kN g t = 5 ∨ kN g t = 9) (hs : oc g t ≤ s + 1) : wpX_goOn px (f_saidPlace, f_instanceCount, f_nodeCount, f_equationCount, (nI nh), (nI nw), (nI nd), (nI nx), (nI nk), (nI nl), (nI ns), 0, f_writtenCount, a_kinds, a_values, a_spans, a_bounds, a_binders, a_lengths, a_parameterCounts, a_typeCodes, a_typeLengths, a_instanceFunctions, a_nodeKinds, a_nodeLefts, a_nodeRights, a_nodeSizes, a_equationLefts, a_equationRights, rsl, rsr, rwd, rbw, rcf, rcs, rct, rcw, a_written) := by
  obtain ⟨hrc, ⟨lim, hfr, hnm, h15, hA, hlim, ws', hws, hs1, hs2, hko⟩, d1, d5⟩ := h
  obtain ⟨a1, a2, a3, a4, a5, a6⟩ := hfr
  have n24 := (lib1 hlib a1 a2).1.1
  obtain ⟨t1, t2, t3, t4⟩ := tok_oc hlib a1 a2 a3
  have hru := a5.2 t a3
  obtain ⟨m, rfl⟩ : ∃ m, nh = m + 1 := ⟨nh - 1, by have := hrc.1; simp only [List.length_cons] at this; omega⟩
  have ho : oc g t = 2 := by
    rw [t4 (by omega)]
    rcases hkt with z | z | z | z <;> rw [z] <;> rfl
  have enm : nm (kN g t) (oc g t) = 2 := by rw [nm_o (by omega) (by omega) (by omega), ho]
  have es : s = 1 := by omega
  subst es
  obtain ⟨w0, ew, hA0⟩ : ∃ w0, ws = w0 :: ws' ∧ w0.1 = rho (jp (sp g) t 0) := by
    rcases hws with ⟨z, _⟩ | ⟨_, z⟩
    · omega
    · exact z
  subst ew
  clear hws
  obtain ⟨q, rfl⟩ : ∃ q, nw = q + 1 + 1 := ⟨nw - 2, by have := hrc.2.1; simp only [List.length_cons] at this; omega⟩
  subst d1
  obtain ⟨hrc1, s1, s2, s3, s4, s5⟩ := rc_st hrc m
  obtain ⟨hrc2, v1, v2, v3, v4⟩ := rc_pop hrc1
  obtain ⟨hrc3, u1, u2, u3, u4⟩ := rc_pop hrc2
  have hm : m = st.length := hrc3.1
  have hq : q = ws'.length := hrc3.2.1
  have c3 := hrc3.2.2.1
  obtain ⟨cnx, cnl, cnc, cnk, cnx1⟩ : nx ≤ 2212 ∧ nl ≤ 40 ∧ nc ≤ 2251 ∧ nk ≤ 200 ∧ 1 ≤ nx := by
    obtain ⟨_, _, _, r4, r5, r6, r7, r8, _, _, _, r12, _⟩ := hrc3
    exact ⟨by omega, r6, by omega, r5, r8⟩
  have cq : (nI q).toNatClampNeg = q := nI_clamp (by omega)
  have cq1 : (nI (q + 1)).toNatClampNeg = q + 1 := nI_clamp (by omega)
  have cx : (nI ((5 + g) * 24 + t)).toNatClampNeg = (5 + g) * 24 + t := nI_clamp (by omega)
  have p : vp_in (nI ((5 + g) * 24 + t)) 264 := pk_in ((5 + g) * 24 + t) 264 (by omega)
  obtain ⟨_, _, m3⟩ := hmx g a1 a2
  have k1 := (m3 t a3).1
  have e1 : nI (q + 1 + 1) - 1 = nI (q + 1) := nI_pred (q + 1)
  have e2 : nI (q + 1 + 1) - 2 = nI q := by rw [show (2 : Int32) = nI 2 from rfl, pk_sub (by omega)]; exact congrArg nI (by omega)
  have i0 : vp_in (nI q) 1200 := pk_in q 1200 (by omega)
  have i1 : vp_in (nI (q + 1)) 1200 := pk_in (q + 1) 1200 (by omega)
  obtain ⟨kx, kx4, ekx⟩ := vv_tag u4
  obtain ⟨ky, ky4, eky⟩ := vv_tag v4
  -- what Y and X have in common: the two words taken
  have xgo : ∀ {k : Nat}, kN g t = k → k ≠ 4 → k ≠ 16 → k ≠ 6 → k ≠ 7 → k ≤ 16 → (((nI k = 12 → wpX_pushWord (fun u => match u with | (f_saidPlace, f_instanceCount, f_nodeCount, f_equationCount, f_stackCount, f_wordCount, f_depth, f_cellCount, f_consCount, f_closureCount, f_stepCount, f_runAnswer, f_writtenCount, a_kinds, a_values, a_spans, a_bounds, a_binders, a_lengths, a_parameterCounts, a_typeCodes, a_typeLengths, a_instanceFunctions, a_nodeKinds, a_nodeLefts, a_nodeRights, a_nodeSizes, a_equationLefts, a_equationRights, a_stackLefts, a_stackRights, a_words, a_boundWords, a_cellFirsts, a_cellSeconds, a_closureTokens, a_closureWords, a_written) => px (-1) (f_saidPlace, f_instanceCount, f_nodeCount, f_equationCount, f_stackCount, f_wordCount, f_depth, f_cellCount, f_consCount, f_closureCount, f_stepCount, f_runAnswer, f_writtenCount, a_kinds, a_values, a_spans, a_bounds, a_binders, a_lengths, a_parameterCounts, a_typeCodes, a_typeLengths, a_instanceFunctions, a_nodeKinds, a_nodeLefts, a_nodeRights, a_nodeSizes, a_equationLefts, a_equationRights, a_stackLefts, a_stackRights, a_words, a_boundWords, a_cellFirsts, a_cellSeconds, a_closureTokens, a_closureWords, a_written)) (f_saidPlace, f_instanceCount, f_nodeCount, f_equationCount, (nI m), (nI q), (nI nd), (nI nx), (nI nk), (nI nl), (nI ns), 0, f_writtenCount, a_kinds, a_values, a_spans, a_bounds, a_binders, a_lengths, a_parameterCounts, a_typeCodes, a_typeLengths, a_instanceFunctions, a_nodeKinds, a_nodeLefts, a_nodeRights, a_nodeSizes, a_equationLefts, a_equationRights, rsl, rsr, rwd, rbw, rcf, rcs, rct, rcw, a_written) (rwd q + rwd (q + 1))) ∧ (¬ nI k = 12 → ((nI k = 13 → ((rwd (q + 1) ≤ rwd q → wX_finish_114 (fun r u => match u with | (f_saidPlace, f_instanceCount, f_nodeCount, f_equationCount, f_stackCount, f_wordCount, f_depth, f_cellCount, f_consCount, f_closureCount, f_stepCount, f_runAnswer, f_writtenCount, a_kinds, a_values, a_spans, a_bounds, a_binders, a_lengths, a_parameterCounts, a_typeCodes, a_typeLengths, a_instanceFunctions, a_nodeKinds, a_nodeLefts, a_nodeRights, a_nodeSizes, a_equationLefts, a_equationRights, a_stackLefts, a_stackRights, a_words, a_boundWords, a_cellFirsts, a_cellSeconds, a_closureTokens, a_closureWords, a_written) => px r (f_saidPlace, f_instanceCount, f_nodeCount, f_equationCount, f_stackCount, f_wordCount, f_depth, f_cellCount, f_consCount, f_closureCount, f_stepCount, f_runAnswer, f_writtenCount, a_kinds, a_values, a_spans, a_bounds, a_binders, a_lengths, a_parameterCounts, a_typeCodes, a_typeLengths, a_instanceFunctions, a_nodeKinds, a_nodeLefts, a_nodeRights, a_nodeSizes, a_equationLefts, a_equationRights, a_stackLefts, a_stackRights, a_words, a_boundWords, a_cellFirsts, a_cellSeconds, a_closureTokens, a_closureWords, a_written)) 0 f_saidPlace f_instanceCount f_nodeCount f_equationCount (nI m) (nI q) (nI nd) (nI nx) (nI nk) (nI nl) (nI ns) 0 f_writtenCount a_kinds a_values a_spans a_bounds a_binders a_lengths a_parameterCounts a_typeCodes a_typeLengths a_instanceFunctions a_nodeKinds a_nodeLefts a_nodeRights a_nodeSizes a_equationLefts a_equationRights rsl rsr rwd rbw rcf rcs rct rcw a_written) ∧ (¬ rwd (q + 1) ≤ rwd q → wX_finish_114 (fun r u => match u with | (f_saidPlace, f_instanceCount, f_nodeCount, f_equationCount, f_stackCount, f_wordCount, f_depth, f_cellCount, f_consCount, f_closureCount, f_stepCount, f_runAnswer, f_writtenCount, a_kinds, a_values, a_spans, a_bounds, a_binders, a_lengths, a_parameterCounts, a_typeCodes, a_typeLengths, a_instanceFunctions, a_nodeKinds, a_nodeLefts, a_nodeRights, a_nodeSizes, a_equationLefts, a_equationRights, a_stackLefts, a_stackRights, a_words, a_boundWords, a_cellFirsts, a_cellSeconds, a_closureTokens, a_closureWords, a_written) => px r (f_saidPlace, f_instanceCount, f_nodeCount, f_equationCount, f_stackCount, f_wordCount, f_depth, f_cellCount, f_consCount, f_closureCount, f_stepCount, f_runAnswer, f_writtenCount, a_kinds, a_values, a_spans, a_bounds, a_binders, a_lengths, a_parameterCounts, a_typeCodes, a_typeLengths, a_instanceFunctions, a_nodeKinds, a_nodeLefts, a_nodeRights, a_nodeSizes, a_equationLefts, a_equationRights, a_stackLefts, a_stackRights, a_words, a_boundWords, a_cellFirsts, a_cellSeconds, a_closureTokens, a_closureWords, a_written)) 1 f_saidPlace f_instanceCount f_nodeCount f_equationCount (nI m) (nI q) (nI nd) (nI nx) (nI nk) (nI nl) (nI ns) 0 f_writtenCount a_kinds a_values a_spans a_bounds a_binders a_lengths a_parameterCounts a_typeCodes a_typeLengths a_instanceFunctions a_nodeKinds a_nodeLefts a_nodeRights a_nodeSizes a_equationLefts a_equationRights rsl rsr rwd rbw rcf rcs rct rcw a_written))) ∧ (¬ nI k = 13 → wpX_keepCell (fun u => match u with | (f_saidPlace, f_instanceCount, f_nodeCount, f_equationCount, f_stackCount, f_wordCount, f_depth, f_cellCount, f_consCount, f_closureCount, f_stepCount, f_runAnswer, f_writtenCount, a_kinds, a_values, a_spans, a_bounds, a_binders, a_lengths, a_parameterCounts, a_typeCodes, a_typeLengths, a_instanceFunctions, a_nodeKinds, a_nodeLefts, a_nodeRights, a_nodeSizes, a_equationLefts, a_equationRights, a_stackLefts, a_stackRights, a_words, a_boundWords, a_cellFirsts, a_cellSeconds, a_closureTokens, a_closureWords, a_written) => px (-1) (f_saidPlace, f_instanceCount, f_nodeCount, f_equationCount, f_stackCount, f_wordCount, f_depth, f_cellCount, f_consCount, f_closureCount, f_stepCount, f_runAnswer, f_writtenCount, a_kinds, a_values, a_spans, a_bounds, a_binders, a_lengths, a_parameterCounts, a_typeCodes, a_typeLengths, a_instanceFunctions, a_nodeKinds, a_nodeLefts, a_nodeRights, a_nodeSizes, a_equationLefts, a_equationRights, a_stackLefts, a_stackRights, a_words, a_boundWords, a_cellFirsts, a_cellSeconds, a_closureTokens, a_closureWords, a_written)) (f_saidPlace, f_instanceCount, f_nodeCount, f_equationCount, (nI m), (nI q), (nI nd), (nI nx), (nI nk), (nI nl), (nI ns), 0, f_writtenCount, a_kinds, a_values, a_spans, a_bounds, a_binders, a_lengths, a_parameterCounts, a_typeCodes, a_typeLengths, a_instanceFunctions, a_nodeKinds, a_nodeLefts, a_nodeRights, a_nodeSizes, a_equationLefts, a_equationRights, rsl, rsr, rwd, rbw, rcf, rcs, rct, rcw, a_written) (nI k) (rwd q) (rwd (q + 1))))))) →
      wpX_goOn px (f_saidPlace, f_instanceCount, f_nodeCount, f_equationCount, (nI (m + 1)), (nI (q + 1 + 1)), (nI nd), (nI nx), (nI nk), (nI nl), (nI ns), 0, f_writtenCount, a_kinds, a_values, a_spans, a_bounds, a_binders, a_lengths, a_parameterCounts, a_typeCodes, a_typeLengths, a_instanceFunctions, a_nodeKinds, a_nodeLefts, a_nodeRights, a_nodeSizes, a_equationLefts, a_equationRights, rsl, rsr, rwd, rbw, rcf, rcs, rct, rcw, a_written) := by
    intro k ek n4 n16 n6 n7 k16 hh
    refine x_pop hlib hmx a1 a2 a3 (by omega) s1 s2 (by omega) (fun _ => ⟨hs, ?_⟩) (fun z => by omega)
    refine And.intro p (nm_r (e' := nI k) (by rw [cx, k1, ek]) ?_)
    exact pk_eq k 4 (fun z => absurd z n4) (fun _ => pk_eq k 16 (fun z => absurd z n16) (fun _ => x_popWord (by omega) (pk_eq k 6 (fun z => absurd z n6) (fun _ => pk_eq k 7 (fun z => absurd z n7) (fun _ => x_popWord (by omega) hh)))))
  have ygo : ∀ {Q n}, wpY_reckon (fun u => match u with | (yf_place, yf_points, yf_names, yf_textEnd, yf_made, yf_entry, yf_waiting, yf_values, yf_bound, yf_cells, yf_conses, yf_lams, yf_steps, yf_atWork, yf_end, yf_writtenCount, ya_kind, ya_up, ya_turn, ya_depth, ya_value, ya_below, ya_length, ya_parameters, ya_codes, ya_codeCount, ya_form, ya_colour, ya_same, ya_one, ya_two, ya_todo, ya_numbered, ya_text, ya_ofFunction, ya_codeEnd, ya_instance, ya_token, ya_env, ya_tag, ya_cellEnv, ya_boundNext, ya_step, ya_boundNumber, ya_boundTag, ya_headTag, ya_tailTag, ya_number, ya_boundValue, ya_head, ya_tail, ya_written) => wY_run_75 Q n yf_place yf_points yf_names yf_textEnd yf_made yf_entry yf_waiting yf_values yf_bound yf_cells yf_conses yf_lams yf_steps yf_atWork yf_end yf_writtenCount ya_kind ya_up ya_turn ya_depth ya_value ya_below ya_length ya_parameters ya_codes ya_codeCount ya_form ya_colour ya_same ya_one ya_two ya_todo ya_numbered ya_text ya_ofFunction ya_codeEnd ya_instance ya_token ya_env ya_tag ya_cellEnv ya_boundNext ya_step ya_boundNumber ya_boundTag ya_headTag ya_tailTag ya_number ya_boundValue ya_head ya_tail ya_written) (yf_place, yf_points, yf_names, yf_textEnd, yf_made, yf_entry, (nI m), (nI (q + 1 + 1)), (nI nb), (nI nc), (nI nk), (nI nl), (nI ns), (nI nd), 0, yf_writtenCount, ya_kind, ya_up, ya_turn, ya_depth, ya_value, ya_below, ya_length, ya_parameters, ya_codes, ya_codeCount, ya_form, ya_colour, ya_same, ya_one, ya_two, ya_todo, ya_numbered, ya_text, ya_ofFunction, ya_codeEnd, ya_instance, rtk, ren, rtg, rce, rbx, rst, rbn, rbt, rht, rtt, rnu, rbv, rhd, rtl, ya_written) (nI (kN g t)) → B Q := by
    intro Q n hh
    exact hY Q ⟨n + 1, y_pop (sv := 2) hlib hmy a1 a2 a3 (by omega) s3 s4 s5 (by omega) (by rw [if_neg h15, enm]; exact Nat.le_refl _) (fun z => by omega) (fun _ => hh) (fun z => by omega)⟩
  unfold ru_t at hru
  rcases hkt with z | z | z | z
  · rw [z] at hru
    obtain ⟨r1, r2, r3⟩ := hru
    obtain ⟨f1, f2⟩ := lf_vv u4 (hA0.trans r1)
    obtain ⟨f3, f4⟩ := lf_vv v4 (hA.trans r2)
    refine xgo z (by decide) (by decide) (by decide) (by decide) (by decide) (br_t rfl (x_pushWord (by omega) ?_))
    rw [u1, v1, f2, f4]
    refine hk.2.1 m (q + 1) nd nx nk nl ns m nb nc rsl rsr (upd rwd q (w0.2.2.1 + w.2.2.1)) rbw rcf rcs rct rcw rtk ren (upd rtg q 0) rce rbx rst rbn rbt rht rtt (upd rnu q (w0.2.2.1 + w.2.2.1)) rbv rhd rtl st (rho t, 0, w0.2.2.1 + w.2.2.1, w0.2.2.1 + w.2.2.1) ws' ty cm lc ⟨rc_push hrc3 (by rw [r3]; exact ⟨rfl, rfl⟩) (Nat.zero_le _) (Nat.zero_le _) m, ⟨_, hko⟩, rfl, ar_fin (fT_pos g t 1) d5⟩ ?_
    rintro Q ⟨n, hn⟩
    refine ygo (n := n) ?_
    rw [z]
    refine nm_r e1 (nm_r e2 (br_f (by decide) (br_f (by decide) (nm_r e2 (br_t rfl (And.intro i0 (And.intro i1 ?_)))))))
    rw [cq, cq1, u3, v3]
    exact y_push (k := 0) (by omega) (by omega) rfl hn
  · rw [z] at hru
    obtain ⟨r1, r2, r3⟩ := hru
    obtain ⟨f1, f2⟩ := lf_vv u4 (hA0.trans r1)
    obtain ⟨f3, f4⟩ := lf_vv v4 (hA.trans r2)
    have fin : ∀ b : Int32, ((w.2.2.1 ≤ w0.2.2.1 ∧ b = 0) ∨ (¬ w.2.2.1 ≤ w0.2.2.1 ∧ b = 1)) → wX_finish_114 (fun r u => match u with | (f_saidPlace, f_instanceCount, f_nodeCount, f_equationCount, f_stackCount, f_wordCount, f_depth, f_cellCount, f_consCount, f_closureCount, f_stepCount, f_runAnswer, f_writtenCount, a_kinds, a_values, a_spans, a_bounds, a_binders, a_lengths, a_parameterCounts, a_typeCodes, a_typeLengths, a_instanceFunctions, a_nodeKinds, a_nodeLefts, a_nodeRights, a_nodeSizes, a_equationLefts, a_equationRights, a_stackLefts, a_stackRights, a_words, a_boundWords, a_cellFirsts, a_cellSeconds, a_closureTokens, a_closureWords, a_written) => px r (f_saidPlace, f_instanceCount, f_nodeCount, f_equationCount, f_stackCount, f_wordCount, f_depth, f_cellCount, f_consCount, f_closureCount, f_stepCount, f_runAnswer, f_writtenCount, a_kinds, a_values, a_spans, a_bounds, a_binders, a_lengths, a_parameterCounts, a_typeCodes, a_typeLengths, a_instanceFunctions, a_nodeKinds, a_nodeLefts, a_nodeRights, a_nodeSizes, a_equationLefts, a_equationRights, a_stackLefts, a_stackRights, a_words, a_boundWords, a_cellFirsts, a_cellSeconds, a_closureTokens, a_closureWords, a_written)) b f_saidPlace f_instanceCount f_nodeCount f_equationCount (nI m) (nI q) (nI nd) (nI nx) (nI nk) (nI nl) (nI ns) 0 f_writtenCount a_kinds a_values a_spans a_bounds a_binders a_lengths a_parameterCounts a_typeCodes a_typeLengths a_instanceFunctions a_nodeKinds a_nodeLefts a_nodeRights a_nodeSizes a_equationLefts a_equationRights rsl rsr rwd rbw rcf rcs rct rcw a_written := by
      intro b hb
      refine x_pushWord (by omega) ?_
      refine hk.2.1 m (q + 1) nd nx nk nl ns m nb nc rsl rsr (upd rwd q b) rbw rcf rcs rct rcw rtk ren (upd rtg q 0) rce rbx rst rbn rbt rht rtt (upd rnu q b) rbv rhd rtl st (rho t, 0, b, b) ws' ty cm lc ⟨rc_push hrc3 (by rw [r3]; exact ⟨rfl, rfl⟩) (Nat.zero_le _) (Nat.zero_le _) m, ⟨_, hko⟩, rfl, ar_fin (fT_pos g t 1) d5⟩ ?_
      rintro Q ⟨n, hn⟩
      refine ygo (n := n) ?_
      rw [z]
      refine nm_r e1 (nm_r e2 (br_f (by decide) (br_f (by decide) (nm_r e2 (br_f (by decide) (br_t rfl (And.intro i0 (And.intro i1 ?_))))))))
      rw [cq, cq1, u3, v3]
      rcases hb with ⟨b1, b2⟩ | ⟨b1, b2⟩
      · subst b2; exact br_t b1 (y_push (k := 0) (by omega) (by omega) rfl hn)
      · subst b2; exact br_f b1 (y_push (k := 0) (by omega) (by omega) rfl hn)
    refine xgo z (by decide) (by decide) (by decide) (by decide) (by decide) (br_f (by decide) (br_t rfl ?_))
    rw [u1, v1, f2, f4]
    exact br_c (fun y => fin 0 (Or.inl ⟨y, rfl⟩)) (fun y => fin 1 (Or.inr ⟨y, rfl⟩))
  · rw [z] at hru
    have r1 : rho t = .branch 2 (rho (jp (sp g) t 0)) (rho (jp (sp g) t 1)) := hru
    have g1 : G1 kN g t = 1 := by unfold G1; rw [if_pos (Or.inl z)]
    have gle := fG_own (sp := sp) (G1 kN) g t 1
    have hrc4 : rc_ok ln P kN vl oc sp bd bi cod m q nd nx nk nl ns m nb nc rsl rsr rwd rbw rcf rcs rct rcw rtk ren rtg rce rbx rst rbn rbt rht rtt rnu rbv rhd rtl st ws' ty cm lc (0 + 1) 0 := by
      obtain ⟨r1, r2, r3, r4, r5, r6, r7, r8, r9, r10, r11, r12, r13⟩ := hrc3
      exact ⟨r1, r2, r3, r4, r5, r6, r7, r8, r9, r10, r11, by omega, by omega⟩
    obtain ⟨lc', h1, h2, h3⟩ := rc_cell (c := 2) (nk' := nk) (a := rho (jp (sp g) t 0)) (b := rho (jp (sp g) t 1)) hlib hrc4 (by rw [← hA0]; exact u4) (by rw [if_pos rfl, ← hA]; exact v4) (Or.inl ⟨rfl, rfl⟩)
    rw [if_pos rfl] at h2
    refine xgo z (by decide) (by decide) (by decide) (by decide) (by decide) (br_f (by decide) (br_f (by decide) ?_))
    rw [u1, v1]
    refine br_f (by decide) (br_f (by decide) (nm_r (e' := nI nk) (Int32.add_zero _) (And.intro (pk_in nx 4825 (by omega)) (nm_r (e' := upd rcf nx w0.2.2.2) (by rw [nI_clamp (by omega)]) (And.intro (pk_in nx 4825 (by omega)) (nm_r (e' := upd rcs nx w.2.2.2) (by rw [nI_clamp (by omega)]) (x_pushWord (by omega) (nm_r (nI_1 nx) ?_))))))))
    refine hk.2.1 m (q + 1) nd (nx + 1) nk nl ns m nb (nc + 1) rsl rsr (upd rwd q (nI nx)) rbw (upd rcf nx w0.2.2.2) (upd rcs nx w.2.2.2) rct rcw rtk ren (upd rtg q 1) rce rbx rst rbn rbt (upd rht nc w0.2.1) (upd rtt nc w.2.1) (upd rnu q (nI nc)) rbv (upd rhd nc w0.2.2.1) (upd rtl nc w.2.2.1) st (rho t, 1, nI nc, nI nx) ws' _ _ lc' ⟨rc_push h3 (by rw [r1]; exact h2) (Nat.zero_le _) (Nat.zero_le _) m, ⟨_, ko_ext (by omega) h1 (Nat.le_refl _) (fun _ _ => ⟨rfl, rfl, rfl, rfl⟩) _ _ _ _ _ (fun _ _ => rfl) hko⟩, rfl, ar_fin (fT_pos g t 1) d5⟩ ?_
    rintro Q ⟨n, hn⟩
    refine ygo (n := n) ?_
    have cnI : (nI nc).toNatClampNeg = nc := nI_clamp (by omega)
    have ic : vp_in (nI nc) 3000 := pk_in nc 3000 (by omega)
    rw [z]
    refine nm_r e1 (nm_r e2 (br_f (by decide) (br_f (by decide) (nm_r e2 (br_f (by decide) (br_f (by decide) (br_f (by decide) ?_)))))))
    refine And.intro i0 (And.intro ic (nm_r (e' := upd rht nc w0.2.1) (by rw [cq, cnI, u2, ekx, tag_b kx4]) (And.intro i0 (And.intro ic (nm_r (e' := upd rhd nc w0.2.2.1) (by rw [cq, cnI, u3]) (And.intro i1 (And.intro ic (nm_r (e' := upd rtt nc w.2.1) (by rw [cq1, cnI, v2, eky, tag_b ky4]) (And.intro i1 (And.intro ic (nm_r (e' := upd rtl nc w.2.2.1) (by rw [cq1, cnI, v3]) (br_t rfl (nm_r (nI_1 nc) ?_)))))))))))))
    exact y_push (k := 1) (by omega) (by omega) rfl hn
  · rw [z] at hru
    obtain ⟨r1, r2⟩ := hru
    have r1' : rho (jp (sp g) t 1) = .branch 3 (rho (jp (sp g) t 0)) (.leaf 0) := r1
    have r3 : rho t = .branch 3 (rho (jp (sp g) t 0)) (.leaf 0) := r2.trans r1
    have g1 : G1 kN g t = 1 := by unfold G1; rw [if_pos (Or.inr z)]
    have gle := fG_own (sp := sp) (G1 kN) g t 1
    have cnI : (nI nc).toNatClampNeg = nc := nI_clamp (by omega)
    have ic : vp_in (nI nc) 3000 := pk_in nc 3000 (by omega)
    have hrc4 : rc_ok ln P kN vl oc sp bd bi cod m q nd nx nk nl ns m nb nc rsl rsr rwd rbw rcf rcs rct rcw rtk ren rtg rce rbx rst rbn rbt rht rtt rnu rbv rhd rtl st ws' ty cm lc (0 + 1) 0 := by
      obtain ⟨r1, r2, r3, r4, r5, r6, r7, r8, r9, r10, r11, r12, r13⟩ := hrc3
      exact ⟨r1, r2, r3, r4, r5, r6, r7, r8, r9, r10, r11, by omega, by omega⟩
    refine xgo z (by decide) (by decide) (by decide) (by decide) (by decide) (br_f (by decide) (br_f (by decide) ?_))
    rw [u1, v1]
    refine br_t rfl (pk_eq nk 200 (fun y => ?_) (fun y => ?_))
    · refine hk.2.2 m q nd nx nk nl ns m nb nc rsl rsr rwd rbw rcf rcs rct rcw rtk ren rtg rce rbx rst rbn rbt rht rtt rnu rbv rhd rtl 7 (nI nk) (nI nl) (nI q) (nI nx) (nI m) (nI m) (nI nl) (nI nk + 1) (nI q) (nI nb) (nI nc) (by decide) ?_
      rintro Q ⟨n, hn⟩
      refine ygo (n := n) ?_
      rw [z]
      exact nm_r e1 (nm_r e2 (br_f (by decide) (br_f (by decide) (nm_r e2 (br_f (by decide) (br_f (by decide) (br_t rfl (nm_e (br_t (by rw [y]; rfl) hn)))))))))
    · obtain ⟨lc', h1, h2, h3⟩ := rc_cell (c := 3) (nk' := nk + 1) (a := rho (jp (sp g) t 0)) (b := .leaf 0) hlib hrc4 (by rw [← hA0]; exact u4) (by rw [if_neg (by omega), ← r1', ← hA]; exact v4) (Or.inr ⟨rfl, rfl, by omega⟩)
      rw [if_neg (by omega)] at h2
      refine br_t rfl (nm_r (e' := nI (nk + 1)) (nI_1 nk) (And.intro (pk_in nx 4825 (by omega)) (nm_r (e' := upd rcf nx w0.2.2.2) (by rw [nI_clamp (by omega)]) (And.intro (pk_in nx 4825 (by omega)) (nm_r (e' := upd rcs nx w.2.2.2) (by rw [nI_clamp (by omega)]) (x_pushWord (by omega) (nm_r (nI_1 nx) ?_)))))))
      refine hk.2.1 m (q + 1) nd (nx + 1) (nk + 1) nl ns m nb (nc + 1) rsl rsr (upd rwd q (nI nx)) rbw (upd rcf nx w0.2.2.2) (upd rcs nx w.2.2.2) rct rcw rtk ren (upd rtg q 3) rce rbx rst rbn rbt (upd rht nc w0.2.1) (upd rtt nc w.2.1) (upd rnu q (nI nc)) rbv (upd rhd nc w0.2.2.1) (upd rtl nc w.2.2.1) st (rho t, 3, nI nc, nI nx) ws' _ _ lc' ⟨rc_push h3 (by rw [r3]; exact h2) (Nat.zero_le _) (Nat.zero_le _) m, ⟨_, ko_ext (by omega) h1 (Nat.le_refl _) (fun _ _ => ⟨rfl, rfl, rfl, rfl⟩) _ _ _ _ _ (fun _ _ => rfl) hko⟩, rfl, ar_fin (fT_pos g t 1) d5⟩ ?_
      rintro Q ⟨n, hn⟩
      refine ygo (n := n) ?_
      rw [z]
      refine nm_r e1 (nm_r e2 (br_f (by decide) (br_f (by decide) (nm_r e2 (br_f (by decide) (br_f (by decide) (br_t rfl (nm_r (nI_1 nk) (br_f (fun v => y ((nI_eq (b := 200) (by omega) (by omega)).mp v)) ?_)))))))))
      refine And.intro i0 (And.intro ic (nm_r (e' := upd rht nc w0.2.1) (by rw [cq, cnI, u2, ekx, tag_b kx4]) (And.intro i0 (And.intro ic (nm_r (e' := upd rhd nc w0.2.2.1) (by rw [cq, cnI, u3]) (And.intro i1 (And.intro ic (nm_r (e' := upd rtt nc w.2.1) (by rw [cq1, cnI, v2, eky, tag_b ky4]) (And.intro i1 (And.intro ic (nm_r (e' := upd rtl nc w.2.2.1) (by rw [cq1, cnI, v3]) (br_f (by decide) (nm_r (nI_1 nc) ?_)))))))))))))
      exact y_push (k := 3) (by omega) (by omega) rfl hn

variable {f_saidPlace f_instanceCount f_nodeCount f_equationCount f_stackCount f_wordCount f_depth f_cellCount f_consCount f_closureCount f_stepCount f_runAnswer f_writtenCount : Int32} {a_kinds a_values a_spans a_bounds a_binders a_lengths a_parameterCounts a_typeCodes a_typeLengths a_instanceFunctions a_nodeKinds a_nodeLefts a_nodeRights a_nodeSizes a_equationLefts a_equationRights a_stackLefts a_stackRights a_words a_boundWords a_cellFirsts a_cellSeconds a_closureTokens a_closureWords a_written : Nat → Int32}
variable {yf_place yf_points yf_names yf_textEnd yf_made yf_entry yf_waiting yf_values yf_bound yf_cells yf_conses yf_lams yf_steps yf_atWork yf_end yf_writtenCount : Int32} {ya_kind ya_up ya_turn ya_depth ya_value ya_below ya_length ya_parameters ya_codes ya_codeCount ya_form ya_colour ya_same ya_one ya_two ya_todo ya_numbered ya_text ya_ofFunction ya_codeEnd ya_instance ya_token ya_env ya_tag ya_cellEnv ya_boundNext ya_step ya_boundNumber ya_boundTag ya_headTag ya_tailTag ya_number ya_boundValue ya_head ya_tail ya_written : Nat → Int32}
variable {ln P : Nat → Nat} {kN : Nat → Nat → Nat} {vl : Nat → Nat → Int32} {oc sp bd bi : Nat → Nat → Nat} {cod : Nat → List Nat}
theorem rc_env {nh nw nd nx nk nl ns nt nb nc : Nat} {rsl rsr rwd rbw rcf rcs rct rcw rtk ren rtg rce rbx rst rbn rbt rht rtt rnu rbv rhd rtl : Nat → Int32} {st : List FE} {ws : List FV} {ty : Nat → mt_T} {cm lc : Nat → Nat} {c1 c2 c1' c2' nb' : Nat} {bn' bx' bt' bv' tk' en' st' : Nat → Int32} (hlib : lib ln P kN vl oc sp bd bi cod) (h : rc_ok ln P kN vl oc sp bd bi cod nh nw nd nx nk nl ns nt nb nc rsl rsr rwd rbw rcf rcs rct rcw rtk ren rtg rce rbx rst rbn rbt rht rtt rnu rbv rhd rtl st ws ty cm lc c1 c2) (h1 : nb ≤ nb') (h2 : ∀ b, b < nb → bn' b = rbn b ∧ bx' b = rbx b ∧ bt' b = rbt b ∧ bv' b = rbv b) (h3 : nb' + c2' ≤ nb + c2) (h4 : c1' ≤ c1)
    (h5 : ∀ j, j < nh → tk' j = rtk j ∧ en' j = ren j ∧ st' j = rst j) (nt' : Nat) : rc_ok ln P kN vl oc sp bd bi cod nh nw nd nx nk nl ns nt' nb' nc rsl rsr rwd rbw rcf rcs rct rcw tk' en' rtg rce bx' st' bn' bt' rht rtt rnu bv' rhd rtl st ws ty cm lc c1' c2' := by
  obtain ⟨a1, a2, a3, a4, a5, a6, a7, a8, a9, a10, a11, a12, a13⟩ := h
  refine ⟨a1, a2, a3, a4, a5, a6, a7, a8, sx_ext st (fun j hj => ?_) a9, a10, fun i hi => ?_, by omega, by omega⟩
  · obtain ⟨q1, q2, q3⟩ := h5 j (by omega)
    exact ⟨rfl, rfl, q1, q2, q3⟩
  · exact ce_ext hlib (a11 i hi) hi (Nat.le_refl _) (fun _ _ => ⟨rfl, rfl, rfl⟩) h1 h2 (Nat.le_refl _) (Nat.le_refl _) (Nat.le_refl _) (fun _ _ => ⟨rfl, rfl⟩) (fun _ _ => rfl) (fun _ _ => rfl) (fun _ _ => ⟨rfl, rfl, rfl, rfl, rfl⟩)
theorem bn_let : bn 14 1 = 1 := rfl
theorem bn_case : bn 10 2 = 2 := rfl
/-- IF, LET, CASE go inside -/
theorem st_in {T0 : mt_T} {px : Int32 → SX → Prop} {B : (Int32 → SY → Prop) → Prop} {mu : Nat} {nh nw nd nx nk nl ns nt nb nc : Nat} {rsl rsr rwd rbw rcf rcs rct rcw rtk ren rtg rce rbx rst rbn rbt rht rtt rnu rbv rhd rtl : Nat → Int32} {g t s : Nat} {e : Int32} {rho : Nat → mt_T} {st : List FE} {w : FV} {ws : List FV} {ty : Nat → mt_T} {cm lc : Nat → Nat} (hlib : lib ln P kN vl oc sp bd bi cod) (hmx : mx_ok ln P kN vl sp bd a_kinds a_values a_spans a_bounds a_lengths a_parameterCounts) (hmy : my_ok ln P kN vl oc sp ya_kind ya_value ya_below ya_parameters)
    (hk : kk ln P kN vl oc sp bd bi cod T0 px B mu f_saidPlace f_instanceCount f_nodeCount f_equationCount f_stackCount f_wordCount f_depth f_cellCount f_consCount f_closureCount f_stepCount f_runAnswer f_writtenCount a_kinds a_values a_spans a_bounds a_binders a_lengths a_parameterCounts a_typeCodes a_typeLengths a_instanceFunctions a_nodeKinds a_nodeLefts a_nodeRights a_nodeSizes a_equationLefts a_equationRights a_stackLefts a_stackRights a_words a_boundWords a_cellFirsts a_cellSeconds a_closureTokens a_closureWords a_written yf_place yf_points yf_names yf_textEnd yf_made yf_entry yf_waiting yf_values yf_bound yf_cells yf_conses yf_lams yf_steps yf_atWork yf_end yf_writtenCount ya_kind ya_up ya_turn ya_depth ya_value ya_below ya_length ya_parameters ya_codes ya_codeCount ya_form ya_colour ya_same ya_one ya_two ya_todo ya_numbered ya_text ya_ofFunction ya_codeEnd ya_instance ya_token ya_env ya_tag ya_cellEnv ya_boundNext ya_step ya_boundNumber ya_boundTag ya_headTag ya_tailTag ya_number ya_boundValue ya_head ya_tail ya_written) (h : rn_ok ln P kN vl oc sp bd bi cod T0 (mu + 1) nh nw nd nx nk nl ns nt nb nc rsl rsr rwd rbw rcf rcs rct rcw rtk ren rtg rce rbx rst rbn rbt rht rtt rnu rbv rhd rtl (some (g, t, s, e, rho) :: st) w ws ty cm lc) (hY : ∀ Q, (∃ n, wY_run_75 Q n yf_place yf_points yf_names yf_textEnd yf_made yf_entry (nI nt) (nI nw) (nI nb) (nI nc) (nI nk) (nI nl) (nI ns) (nI nd) 0 yf_writtenCount ya_kind ya_up ya_turn ya_depth ya_value ya_below ya_length ya_parameters ya_codes ya_codeCount ya_form ya_colour ya_same ya_one ya_two ya_todo ya_numbered ya_text ya_ofFunction ya_codeEnd ya_instance rtk ren rtg rce rbx rst rbn rbt rht rtt rnu rbv rhd rtl ya_written) → B Q) (hkt : kN g t = 11 ∨ kN g t = 14 ∨ kN g t = 10) : wpX_goOn px (f_saidPlace, f_instanceCount, f_nodeCount, f_equationCount, (nI nh), (nI nw), (nI nd), (nI nx), (nI nk), (nI nl), (nI ns), 0, f_writtenCount, a_kinds, a_values, a_spans, a_bounds, a_binders, a_lengths, a_parameterCounts, a_typeCodes, a_typeLengths, a_instanceFunctions, a_nodeKinds, a_nodeLefts, a_nodeRights, a_nodeSizes, a_equationLefts, a_equationRights, rsl, rsr, rwd, rbw, rcf, rcs, rct, rcw, a_written) := by
  obtain ⟨hrc, ⟨lim, hfr, hnm, h15, hA, hlim, ws', hws, hs1, hs2, hko⟩, d1, d5⟩ := h
  have hfr0 := hfr
  obtain ⟨a1, a2, a3, a4, a5, a6⟩ := hfr
  obtain ⟨⟨n24, hbw, _, tr, hbt⟩, _, _, l4, l5, _⟩ := lib1 hlib a1 a2
  have hbi : ∀ t, t < ln g → bi g t ≤ t := fun t ht => (hbt t ht).2.2.2.1
  obtain ⟨t1, t2, t3, t4⟩ := tok_oc hlib a1 a2 a3
  have hru := a5.2 t a3
  obtain ⟨m, rfl⟩ : ∃ m, nh = m + 1 := ⟨nh - 1, by have := hrc.1; simp only [List.length_cons] at this; omega⟩
  obtain ⟨q, rfl⟩ : ∃ q, nw = q + 1 := ⟨nw - 1, by have := hrc.2.1; simp only [List.length_cons] at this; omega⟩
  have enm : nm (kN g t) (oc g t) = 1 := by unfold nm; rw [if_pos (by omega)]
  have es : s = 0 := by omega
  subst es
  have ews : ws = ws' := by
    rcases hws with ⟨_, z⟩ | ⟨z, _⟩
    · exact z
    · omega
  subst ews
  clear hws
  subst d1
  obtain ⟨hrc1, s1, s2, s3, s4, s5⟩ := rc_st hrc m
  obtain ⟨hrc2, v1, v2, v3, v4⟩ := rc_pop hrc1
  have hm : m = st.length := hrc2.1
  have hq : q = ws.length := hrc2.2.1
  have c3 := hrc2.2.2.1
  obtain ⟨cnx, cnl, cnc, cnb⟩ : nx ≤ 2212 ∧ nl ≤ 40 ∧ nc ≤ 2251 ∧ nb + fG sp (G2 kN) g t 0 ≤ 3415 := by
    obtain ⟨_, _, _, r4, _, r6, r7, _, _, _, _, r12, r13⟩ := hrc2
    exact ⟨by omega, r6, by omega, by omega⟩
  have hcell := hrc2.2.2.2.2.2.2.2.2.2.2.1
  have cq : (nI q).toNatClampNeg = q := nI_clamp (by omega)
  have cx : (nI ((5 + g) * 24 + t)).toNatClampNeg = (5 + g) * 24 + t := nI_clamp (by omega)
  have cy : (nI (24 * (6 + g) + t)).toNatClampNeg = 24 * (6 + g) + t := nI_clamp (by omega)
  have p : vp_in (nI ((5 + g) * 24 + t)) 264 := pk_in ((5 + g) * 24 + t) 264 (by omega)
  have py : vp_in (nI (24 * (6 + g) + t)) 264 := pk_in (24 * (6 + g) + t) 264 (by omega)
  obtain ⟨_, _, m3⟩ := hmx g a1 a2
  obtain ⟨k1, _, _, k4, k5⟩ := m3 t a3
  obtain ⟨_, y2⟩ := hmy g a1 a2
  obtain ⟨z1, z2, z3⟩ := y2 t a3
  have h10 := l4 t a3
  have eb : nI nd * 10 + nI (bd g t) = nI (nd * 10 + bd g t) := by rw [show nI nd * 10 = nI (nd * 10) from pk_mul nd 10, nI_add]
  have e2 : nI (q + 1) - 1 = nI q := nI_pred q
  have iq : vp_in (nI (q + 1) - 1) 1200 := pk_in q 1200 (by omega) e2
  have iq' : vp_in (nI q) 1200 := pk_in q 1200 (by omega)
  have hes := fr_s hfr0 (by omega)
  have spn : ∀ j, j ≤ oc g t → ∀ i, i < j → (5 + g) * 24 + jp (sp g) t i < 264 ∧ a_spans ((5 + g) * 24 + jp (sp g) t i) = nI (sp g (jp (sp g) t i)) := by
    intro j hj i hi
    have := (bw_in hbw a3 (by omega : i < oc g t)).2.2
    exact ⟨by omega, (m3 _ this).2.2.2.1⟩
  -- the end: operand j, with the bindings as they are then
  have fin : ∀ (j nb' : Nat) (e' : Int32) (bw' bn' bx' bt' bv' : Nat → Int32), 1 ≤ j → j < oc g t → nb ≤ nb' → nb' ≤ nb + G2 kN g t → (∀ b, b < nb → bn' b = rbn b ∧ bx' b = rbx b ∧ bt' b = rbt b ∧ bv' b = rbv b) → (∀ k, k < nd * 10 + bd g t → bw' k = rbw k) → rho (jp (sp g) t j) = rho t →
      ev nc ty cm nb' bn' bx' bt' bv' (bd g (jp (sp g) t j)) e' (fun k => bw' (nd * 10 + k)) (fun k => rho (wv (bi g) (bd g) (jp (sp g) t j) k)) →
      (∀ Q n, wY_run_75 Q n yf_place yf_points yf_names yf_textEnd yf_made yf_entry (nI (m + 1)) (nI q) (nI nb') (nI nc) (nI nk) (nI nl) (nI ns) (nI nd) 0 yf_writtenCount ya_kind ya_up ya_turn ya_depth ya_value ya_below ya_length ya_parameters ya_codes ya_codeCount ya_form ya_colour ya_same ya_one ya_two ya_todo ya_numbered ya_text ya_ofFunction ya_codeEnd ya_instance (upd rtk m (nI (24 * (6 + g) + jp (sp g) t j))) (upd ren m e') rtg rce bx' (upd rst m 0) bn' bt' rht rtt rnu bv' rhd rtl ya_written → B Q) →
      px (nI ((5 + g) * 24 + jp (sp g) t j)) (f_saidPlace, f_instanceCount, f_nodeCount, f_equationCount, (nI m), (nI q), (nI nd), (nI nx), (nI nk), (nI nl), (nI ns), 0, f_writtenCount, a_kinds, a_values, a_spans, a_bounds, a_binders, a_lengths, a_parameterCounts, a_typeCodes, a_typeLengths, a_instanceFunctions, a_nodeKinds, a_nodeLefts, a_nodeRights, a_nodeSizes, a_equationLefts, a_equationRights, rsl, rsr, rwd, bw', rcf, rcs, rct, rcw, a_written) := by
    intro j nb' e' bw' bn' bx' bt' bv' hj1 hj hnb hnb2 hb hw hty hev hy
    have hc := (bw_in hbw a3 hj)
    have bin1 := b_in (G := G1 kN) hbw a3 hj1 hj
    have bin2 := b_in (G := G2 kN) hbw a3 hj1 hj
    have tin := t_in hbw a3 hj1 hj
    have hbc : bd g t ≤ bd g (jp (sp g) t j) := by rw [(tr.2 t a3 j hj).1]; omega
    refine hk.1 m q nd nx nk nl ns (m + 1) nb' nc rsl rsr rwd bw' rcf rcs rct rcw (upd rtk m (nI (24 * (6 + g) + jp (sp g) t j))) (upd ren m e') rtg rce bx' (upd rst m 0) bn' bt' rht rtt rnu bv' rhd rtl g (jp (sp g) t j) e' rho st ws ty cm lc ⟨rc_env hlib hrc2 hnb hb (by omega) (by omega) (fun i hi => ⟨pk_un (by omega), pk_un (by omega), pk_un (by omega)⟩) (m + 1), ⟨a1, a2, hc.2.2, a4, a5, hev⟩, ?_, by omega, by omega, rfl, pk_us, pk_us, pk_us, ar_in tin d5⟩ (fun Q ⟨n, hn⟩ => hy Q n hn)
    rw [hty]
    exact ko_lim (ko_ext (Nat.le_refl _) (fun _ _ => ⟨rfl, rfl⟩) hnb hb _ _ _ _ _ hw hko) (by omega)
  have ygo : ∀ {Q n}, wpY_choose (fun u => match u with | (yf_place, yf_points, yf_names, yf_textEnd, yf_made, yf_entry, yf_waiting, yf_values, yf_bound, yf_cells, yf_conses, yf_lams, yf_steps, yf_atWork, yf_end, yf_writtenCount, ya_kind, ya_up, ya_turn, ya_depth, ya_value, ya_below, ya_length, ya_parameters, ya_codes, ya_codeCount, ya_form, ya_colour, ya_same, ya_one, ya_two, ya_todo, ya_numbered, ya_text, ya_ofFunction, ya_codeEnd, ya_instance, ya_token, ya_env, ya_tag, ya_cellEnv, ya_boundNext, ya_step, ya_boundNumber, ya_boundTag, ya_headTag, ya_tailTag, ya_number, ya_boundValue, ya_head, ya_tail, ya_written) => wY_run_75 Q n yf_place yf_points yf_names yf_textEnd yf_made yf_entry yf_waiting yf_values yf_bound yf_cells yf_conses yf_lams yf_steps yf_atWork yf_end yf_writtenCount ya_kind ya_up ya_turn ya_depth ya_value ya_below ya_length ya_parameters ya_codes ya_codeCount ya_form ya_colour ya_same ya_one ya_two ya_todo ya_numbered ya_text ya_ofFunction ya_codeEnd ya_instance ya_token ya_env ya_tag ya_cellEnv ya_boundNext ya_step ya_boundNumber ya_boundTag ya_headTag ya_tailTag ya_number ya_boundValue ya_head ya_tail ya_written) (yf_place, yf_points, yf_names, yf_textEnd, yf_made, yf_entry, (nI m), (nI (q + 1)), (nI nb), (nI nc), (nI nk), (nI nl), (nI ns), (nI nd), 0, yf_writtenCount, ya_kind, ya_up, ya_turn, ya_depth, ya_value, ya_below, ya_length, ya_parameters, ya_codes, ya_codeCount, ya_form, ya_colour, ya_same, ya_one, ya_two, ya_todo, ya_numbered, ya_text, ya_ofFunction, ya_codeEnd, ya_instance, rtk, ren, rtg, rce, rbx, rst, rbn, rbt, rht, rtt, rnu, rbv, rhd, rtl, ya_written) (nI (24 * (6 + g) + t)) e → B Q := by
    intro Q n hh
    exact hY Q ⟨n + 1, y_pop (sv := 1) hlib hmy a1 a2 a3 (by omega) s3 s4 s5 (by omega) (by rw [if_neg h15, enm]; exact Nat.le_refl _) (fun z => by omega) (fun z => by omega) (fun _ => hh)⟩
  have xgo : wpX_goInside (fun r u => match u with | (f_saidPlace, f_instanceCount, f_nodeCount, f_equationCount, f_stackCount, f_wordCount, f_depth, f_cellCount, f_consCount, f_closureCount, f_stepCount, f_runAnswer, f_writtenCount, a_kinds, a_values, a_spans, a_bounds, a_binders, a_lengths, a_parameterCounts, a_typeCodes, a_typeLengths, a_instanceFunctions, a_nodeKinds, a_nodeLefts, a_nodeRights, a_nodeSizes, a_equationLefts, a_equationRights, a_stackLefts, a_stackRights, a_words, a_boundWords, a_cellFirsts, a_cellSeconds, a_closureTokens, a_closureWords, a_written) => px r (f_saidPlace, f_instanceCount, f_nodeCount, f_equationCount, f_stackCount, f_wordCount, f_depth, f_cellCount, f_consCount, f_closureCount, f_stepCount, f_runAnswer, f_writtenCount, a_kinds, a_values, a_spans, a_bounds, a_binders, a_lengths, a_parameterCounts, a_typeCodes, a_typeLengths, a_instanceFunctions, a_nodeKinds, a_nodeLefts, a_nodeRights, a_nodeSizes, a_equationLefts, a_equationRights, a_stackLefts, a_stackRights, a_words, a_boundWords, a_cellFirsts, a_cellSeconds, a_closureTokens, a_closureWords, a_written)) (f_saidPlace, f_instanceCount, f_nodeCount, f_equationCount, (nI m), (nI (q + 1)), (nI nd), (nI nx), (nI nk), (nI nl), (nI ns), 0, f_writtenCount, a_kinds, a_values, a_spans, a_bounds, a_binders, a_lengths, a_parameterCounts, a_typeCodes, a_typeLengths, a_instanceFunctions, a_nodeKinds, a_nodeLefts, a_nodeRights, a_nodeSizes, a_equationLefts, a_equationRights, rsl, rsr, rwd, rbw, rcf, rcs, rct, rcw, a_written) (nI ((5 + g) * 24 + t)) → wpX_goOn px (f_saidPlace, f_instanceCount, f_nodeCount, f_equationCount, (nI (m + 1)), (nI (q + 1)), (nI nd), (nI nx), (nI nk), (nI nl), (nI ns), 0, f_writtenCount, a_kinds, a_values, a_spans, a_bounds, a_binders, a_lengths, a_parameterCounts, a_typeCodes, a_typeLengths, a_instanceFunctions, a_nodeKinds, a_nodeLefts, a_nodeRights, a_nodeSizes, a_equationLefts, a_equationRights, rsl, rsr, rwd, rbw, rcf, rcs, rct, rcw, a_written) := fun hh => x_pop hlib hmx a1 a2 a3 (by omega) s1 s2 (by omega) (fun z => by omega) (fun _ => hh)
  unfold ru_t at hru
  have evc : ∀ j, j < oc g t → bn (kN g t) j = 0 → ev nc ty cm nb rbn rbx rbt rbv (bd g (jp (sp g) t j)) e (fun k => rbw (nd * 10 + k)) (fun k => rho (wv (bi g) (bd g) (jp (sp g) t j) k)) := fun j hj hb => (fr_child hlib hfr0 hj hb).1.2.2.2.2.2
  refine xgo ?_
  unfold wpX_goInside
  rcases hkt with z | z | z
  · rw [z] at hru
    obtain ⟨r1, r2, r3⟩ := hru
    have ho : oc g t = 3 := by rw [t4 (by omega), z]; rfl
    obtain ⟨f1, f2⟩ := lf_vv v4 (hA.trans r1)
    refine x_popWord (by omega) (And.intro p (nm_r (e' := nI (nd * 10 + bd g t)) (by rw [cx, k5]; exact eb) (And.intro p ?_)))
    rw [cx, k1, z]
    refine br_t rfl ?_
    rw [v1, f2]
    have ych : ∀ j, (j = 1 ∨ j = 2) → (j = 2 ∧ w.2.2.1 = 0 ∨ j = 1 ∧ ¬ w.2.2.1 = 0) → ∀ Q n, wY_run_75 Q n yf_place yf_points yf_names yf_textEnd yf_made yf_entry (nI (m + 1)) (nI q) (nI nb) (nI nc) (nI nk) (nI nl) (nI ns) (nI nd) 0 yf_writtenCount ya_kind ya_up ya_turn ya_depth ya_value ya_below ya_length ya_parameters ya_codes ya_codeCount ya_form ya_colour ya_same ya_one ya_two ya_todo ya_numbered ya_text ya_ofFunction ya_codeEnd ya_instance (upd rtk m (nI (24 * (6 + g) + jp (sp g) t j))) (upd ren m e) rtg rce rbx (upd rst m 0) rbn rbt rht rtt rnu rbv rhd rtl ya_written → B Q := by
      intro j hj hjv Q n hn
      have hc := (bw_in hbw a3 (by omega : j < oc g t)).2.2
      refine ygo (n := n) (And.intro py (nm_r (e' := 11) (by rw [cy, z1, z]; rfl) (nm_r e2 (And.intro iq (nm_r (e' := w.2.1) (by rw [e2, cq, v2]) (And.intro iq' (nm_r (e' := w.2.2.1) (by rw [cq, v3]) (br_t rfl ?_))))))))
      rcases hjv with ⟨y1, y2⟩ | ⟨y1, y2⟩
      · subst y1
        exact br_t y2 (br_f (by decide) (br_f (by decide) (br_f (by decide) (y_child (j := 2) a1 (by omega) (by omega) (z3 2 (by omega)) (y_later (by omega) (short_tok a1 (by omega)) hes hn)))))
      · subst y1
        exact br_f y2 (br_f (by decide) (br_f (by decide) (br_f (by decide) (y_child (j := 1) a1 (by omega) (by omega) (z3 1 (by omega)) (y_later (by omega) (short_tok a1 (by omega)) hes hn)))))
    refine br_c (fun y => ?_) (fun y => ?_)
    · exact x_operandAt (B := (5 + g) * 24) (t := t) (sp := sp g) (j := 2) (by omega) (spn 2 (by omega)) (fin 2 nb e rbw rbn rbx rbt rbv (by omega) (by omega) (Nat.le_refl _) (by omega) (fun _ _ => ⟨rfl, rfl, rfl, rfl⟩) (fun _ _ => rfl) r3 (evc 2 (by omega) (bn0 h15 (Or.inr (Or.inl ⟨by omega, by omega⟩)))) (ych 2 (Or.inr rfl) (Or.inl ⟨rfl, y⟩)))
    · exact x_operandAt (B := (5 + g) * 24) (t := t) (sp := sp g) (j := 1) (by omega) (spn 1 (by omega)) (fin 1 nb e rbw rbn rbx rbt rbv (by omega) (by omega) (Nat.le_refl _) (by omega) (fun _ _ => ⟨rfl, rfl, rfl, rfl⟩) (fun _ _ => rfl) r2 (evc 1 (by omega) (bn0 h15 (Or.inr (Or.inl ⟨by omega, by omega⟩)))) (ych 1 (Or.inl rfl) (Or.inr ⟨rfl, y⟩)))
  · rw [z] at hru
    obtain ⟨r1, r2⟩ := hru
    have r1' : rho (24 + 2 * t) = rho (jp (sp g) t 0) := r1
    have ho : oc g t = 2 := by rw [t4 (by omega), z]; rfl
    have hop := l5 t a3 (by rw [z]; decide)
    rw [z] at hop
    have hop' : bd g t + 1 ≤ 10 := hop
    have g2 : G2 kN g t = 1 := by unfold G2; rw [if_pos z]
    have hbc : bd g (jp (sp g) t 1) = bd g t + 1 := by rw [(tr.2 t a3 1 (by omega)).1, z]; rfl
    have hc1 := (bw_in hbw a3 (by omega : 1 < oc g t)).2.2
    obtain ⟨kt, kt4, ekt⟩ := vv_tag v4
    have nodes : ∀ k, wv (bi g) (bd g) (jp (sp g) t 1) k = if bd g t ≤ k then 24 + 2 * t + (k - bd g t) else wv (bi g) (bd g) t k := by
      intro k
      rw [wv_child tr hbi a3 (by omega) k, z]
      by_cases y : bd g t ≤ k
      · rw [if_pos ⟨by decide, y⟩, if_pos y]
      · rw [if_neg (fun x => y x.2), if_neg y]
    have hev : ev nc ty cm (nb + 1) (upd rbn nb (nI (bd g t))) (upd rbx nb e) (upd rbt nb w.2.1) (upd rbv nb w.2.2.1) (bd g (jp (sp g) t 1)) (nI nb) (fun k => upd rbw (nd * 10 + bd g t) w.2.2.2 (nd * 10 + k)) (fun k => rho (wv (bi g) (bd g) (jp (sp g) t 1) k)) := by
      rw [hbc]
      refine ev_bind a6 ?_ (fun k hk => ?_) (fun k hk => ?_)
      · rw [pk_us, nodes, if_pos (Nat.le_refl _), Nat.sub_self, Nat.add_zero, r1', ← hA]; exact v4
      · rw [pk_un (by omega)]
      · rw [nodes, if_neg (by omega)]
    refine x_popWord (by omega) (And.intro p (nm_r (e' := nI (nd * 10 + bd g t)) (by rw [cx, k5]; exact eb) (And.intro p ?_)))
    rw [cx, k1, z]
    refine br_f (by decide) (And.intro p ?_)
    refine br_t rfl (And.intro (pk_in (nd * 10 + bd g t) 210 (by omega)) (nm_r (e' := upd rbw (nd * 10 + bd g t) w.2.2.2) (by rw [nI_clamp (by omega), v1]) ?_))
    refine x_operandAt (B := (5 + g) * 24) (t := t) (sp := sp g) (j := 1) (by omega) (spn 1 (by omega)) (fin 1 (nb + 1) (nI nb) _ _ _ _ _ (by omega) (by omega) (by omega) (by omega) (fun b hb => ⟨pk_un (by omega), pk_un (by omega), pk_un (by omega), pk_un (by omega)⟩) (fun k hk => pk_un (by omega)) r2.symm hev (fun Q n hn => ?_))
    refine ygo (n := n) (And.intro py (nm_r (e' := 14) (by rw [cy, z1, z]; rfl) (nm_r e2 (And.intro iq (nm_r (e' := w.2.1) (by rw [e2, cq, v2]) (And.intro iq' (nm_r (e' := w.2.2.1) (by rw [cq, v3]) (br_f (by decide) (br_t rfl ?_)))))))))
    exact y_bind (by omega) (by omega) kt4 ekt a6 (br_f (by decide) (br_f (by decide) (y_child (j := 1) a1 (by omega) (by omega) (z3 1 (by omega)) (y_later (by omega) (short_tok a1 (by omega)) (nr_s (by omega)) hn))))
  · rw [z] at hru
    obtain ⟨r1, r2, r3, r4⟩ := hru
    have r1' : rho (jp (sp g) t 0) = .branch 3 (rho (24 + 2 * t)) (.leaf 0) := r1
    have ho : oc g t = 3 := by rw [t4 (by omega), z]; rfl
    have hop := l5 t a3 (by rw [z]; decide)
    rw [z] at hop
    have hop' : bd g t + 2 ≤ 10 := hop
    have g2 : G2 kN g t = 2 := by unfold G2; rw [if_neg (by omega), if_pos z]
    have hc1 := (bw_in hbw a3 (by omega : 1 < oc g t)).2.2
    have hc2 := (bw_in hbw a3 (by omega : 2 < oc g t)).2.2
    have v4' := v4
    rw [hA, r1'] at v4'
    refine x_popWord (by omega) (And.intro p (nm_r (e' := nI (nd * 10 + bd g t)) (by rw [cx, k5]; exact eb) (And.intro p ?_)))
    rw [cx, k1, z]
    refine br_f (by decide) (And.intro p (br_f (by decide) ?_))
    rw [v1]
    rcases v4' with ⟨_, f1, f2, f3⟩ | ⟨i, i1, i2, i3, i4, i5⟩
    · refine br_t f3 (x_operandAt (B := (5 + g) * 24) (t := t) (sp := sp g) (j := 1) (by omega) (spn 1 (by omega)) (fin 1 nb e rbw rbn rbx rbt rbv (by omega) (by omega) (Nat.le_refl _) (by omega) (fun _ _ => ⟨rfl, rfl, rfl, rfl⟩) (fun _ _ => rfl) r3 (evc 1 (by omega) (bn0 h15 (Or.inr (Or.inr ⟨z, rfl⟩)))) (fun Q n hn => ?_)))
      refine ygo (n := n) (And.intro py (nm_r (e' := 10) (by rw [cy, z1, z]; rfl) (nm_r e2 (And.intro iq (nm_r (e' := w.2.1) (by rw [e2, cq, v2]) (And.intro iq' (nm_r (e' := w.2.2.1) (by rw [cq, v3]) (br_f (by decide) (br_f (by decide) (br_t rfl (br_f (by rw [f1]; decide) (br_f (by decide) ?_))))))))))))
      exact y_child (j := 1) a1 (by omega) (by omega) (z3 1 (by omega)) (y_later (by omega) (short_tok a1 (by omega)) hes hn)
    · have i6 : w.2.1 = 3 := by
        rcases i5 with ⟨y, _⟩ | ⟨_, y⟩ | ⟨y, _⟩
        · omega
        · exact y
        · omega
      obtain ⟨q2, q3, q4, q5⟩ : 1 ≤ cm i ∧ cm i < nx ∧ vv nc ty cm (rho (24 + 2 * t)) (rht i) (rhd i) (rcf (cm i)) ∧ vv nc ty cm (.branch 3 (rho (24 + 2 * t)) (.leaf 0)) (rtt i) (rtl i) (rcs (cm i)) := by
        rcases hcell i i1 with ⟨a', b', c1, _⟩ | ⟨a', b', c1, c2, c3, c4, c5, _⟩ | ⟨a', b', c1, _⟩
        · rw [c1] at i4; injection i4 with y; omega
        · rw [c1] at i4
          injection i4 with _ ea eb'
          subst ea eb'
          exact ⟨c2, c3, vv_ext c4 (by omega) (fun _ _ => ⟨rfl, rfl⟩), vv_ext c5 (by omega) (fun _ _ => ⟨rfl, rfl⟩)⟩
        · rw [c1] at i4; injection i4 with y; omega
      have ci : (nI i).toNatClampNeg = i := nI_clamp (by omega)
      have ccm : (nI (cm i)).toNatClampNeg = cm i := nI_clamp (by omega)
      have ii : vp_in (nI i) 3000 := pk_in i 3000 (by omega)
      obtain ⟨ka, ka4, eka⟩ := vv_tag q4
      obtain ⟨kb, kb4, ekb⟩ := vv_tag q5
      have hbc : bd g (jp (sp g) t 2) = bd g t + 1 + 1 := by rw [(tr.2 t a3 2 (by omega)).1, z]; rfl
      have nodes : ∀ k, wv (bi g) (bd g) (jp (sp g) t 2) k = if bd g t ≤ k then 24 + 2 * t + (k - bd g t) else wv (bi g) (bd g) t k := by
        intro k
        rw [wv_child tr hbi a3 (by omega) k, z]
        by_cases y : bd g t ≤ k
        · rw [if_pos ⟨by decide, y⟩, if_pos y]
        · rw [if_neg (fun x => y x.2), if_neg y]
      have hev1 : ev nc ty cm (nb + 1) (upd rbn nb (nI (bd g t))) (upd rbx nb e) (upd rbt nb (rht i)) (upd rbv nb (rhd i)) (bd g t + 1) (nI nb) (fun k => upd (upd rbw (nd * 10 + bd g t) (rcf (cm i))) (nd * 10 + bd g t + 1) (rcs (cm i)) (nd * 10 + k)) (fun k => rho (wv (bi g) (bd g) (jp (sp g) t 2) k)) := by
        refine ev_bind a6 ?_ (fun k hk => ?_) (fun k hk => ?_)
        · rw [pk_un (by omega), pk_us, nodes, if_pos (Nat.le_refl _), Nat.sub_self, Nat.add_zero]; exact q4
        · rw [pk_un (by omega), pk_un (by omega)]
        · rw [nodes, if_neg (by omega)]
      have hev2 : ev nc ty cm (nb + 1 + 1) (upd (upd rbn nb (nI (bd g t))) (nb + 1) (nI (bd g t + 1))) (upd (upd rbx nb e) (nb + 1) (nI nb)) (upd (upd rbt nb (rht i)) (nb + 1) (rtt i)) (upd (upd rbv nb (rhd i)) (nb + 1) (rtl i)) (bd g (jp (sp g) t 2)) (nI (nb + 1)) (fun k => upd (upd rbw (nd * 10 + bd g t) (rcf (cm i))) (nd * 10 + bd g t + 1) (rcs (cm i)) (nd * 10 + k)) (fun k => rho (wv (bi g) (bd g) (jp (sp g) t 2) k)) := by
        rw [hbc]
        refine ev_bind hev1 ?_ (fun k hk => rfl) (fun k hk => rfl)
        have e25 : 24 + 2 * t + (bd g t + 1 - bd g t) = 25 + 2 * t := by omega
        rw [show nd * 10 + (bd g t + 1) = nd * 10 + bd g t + 1 by omega, pk_us, nodes, if_pos (by omega), e25, r2, r1']; exact q5
      have x0 : ¬ w.2.2.2 = 0 := by rw [i3]; exact fun y => by have := (nI0 (n := cm i) (by omega)).mp y; omega
      refine br_f x0 ?_
      rw [i3]
      have icm : vp_in (nI (cm i)) 4825 := pk_in (cm i) 4825 (by omega)
      have e1b : nI (nd * 10 + bd g t) + 1 = nI (nd * 10 + bd g t + 1) := nI_1 _
      refine And.intro icm (And.intro (pk_in (nd * 10 + bd g t) 210 (by omega)) (nm_r (e' := upd rbw (nd * 10 + bd g t) (rcf (cm i))) (by rw [nI_clamp (by omega), ccm]) (And.intro icm (And.intro (pk_in (nd * 10 + bd g t + 1) 210 (by omega) e1b) (nm_r (e' := upd (upd rbw (nd * 10 + bd g t) (rcf (cm i))) (nd * 10 + bd g t + 1) (rcs (cm i))) (by rw [e1b, nI_clamp (by omega), ccm]) ?_)))))
      refine x_operandAt (B := (5 + g) * 24) (t := t) (sp := sp g) (j := 2) (by omega) (spn 2 (by omega)) (fin 2 (nb + 1 + 1) (nI (nb + 1)) _ _ _ _ _ (by omega) (by omega) (by omega) (by omega) (fun b hb => ⟨by rw [pk_un (by omega), pk_un (by omega)], by rw [pk_un (by omega), pk_un (by omega)], by rw [pk_un (by omega), pk_un (by omega)], by rw [pk_un (by omega), pk_un (by omega)]⟩) (fun k hk => by rw [pk_un (by omega), pk_un (by omega)]) r4 hev2 (fun Q n hn => ?_))
      refine ygo (n := n) (And.intro py (nm_r (e' := 10) (by rw [cy, z1, z]; rfl) (nm_r e2 (And.intro iq (nm_r (e' := w.2.1) (by rw [e2, cq, v2]) (And.intro iq' (nm_r (e' := nI i) (by rw [cq, v3, i2]) (br_f (by decide) (br_f (by decide) (br_t rfl (br_t i6 (And.intro ii (And.intro ii ?_)))))))))))))
      rw [ci]
      refine y_bind (by omega) (by omega) ka4 eka a6 (And.intro ii (And.intro ii ?_))
      exact y_bind (by omega) (by omega) kb4 ekb hev1 (br_f (by decide) (y_child (j := 2) a1 (by omega) (by omega) (z3 2 (by omega)) (y_later (by omega) (short_tok a1 (by omega)) (nr_s (by omega)) hn)))

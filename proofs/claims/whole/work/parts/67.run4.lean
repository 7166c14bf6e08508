variable {f_saidPlace f_instanceCount f_nodeCount f_equationCount f_stackCount f_wordCount f_depth f_cellCount f_consCount f_closureCount f_stepCount f_runAnswer f_writtenCount : Int32} {a_kinds a_values a_spans a_bounds a_binders a_lengths a_parameterCounts a_typeCodes a_typeLengths a_instanceFunctions a_nodeKinds a_nodeLefts a_nodeRights a_nodeSizes a_equationLefts a_equationRights a_stackLefts a_stackRights a_words a_boundWords a_cellFirsts a_cellSeconds a_closureTokens a_closureWords a_written : Nat → Int32}
variable {yf_place yf_points yf_names yf_textEnd yf_made yf_entry yf_waiting yf_values yf_bound yf_cells yf_conses yf_lams yf_steps yf_atWork yf_end yf_writtenCount : Int32} {ya_kind ya_up ya_turn ya_depth ya_value ya_below ya_length ya_parameters ya_codes ya_codeCount ya_form ya_colour ya_same ya_one ya_two ya_todo ya_numbered ya_text ya_ofFunction ya_codeEnd ya_instance ya_token ya_env ya_tag ya_cellEnv ya_boundNext ya_step ya_boundNumber ya_boundTag ya_headTag ya_tailTag ya_number ya_boundValue ya_head ya_tail ya_written : Nat → Int32}
variable {ln P : Nat → Nat} {kN : Nat → Nat → Nat} {vl : Nat → Nat → Int32} {oc sp bd bi : Nat → Nat → Nat} {cod : Nat → List Nat}
theorem rc_push {nh nw nd nx nk nl ns nt nb nc : Nat} {rsl rsr rwd rbw rcf rcs rct rcw rtk ren rtg rce rbx rst rbn rbt rht rtt rnu rbv rhd rtl : Nat → Int32} {st : List FE} {ws : List FV} {ty : Nat → mt_T} {cm lc : Nat → Nat} {c1 c2 c1' c2' : Nat} {T : mt_T} {tg num x : Int32} (h : rc_ok ln P kN vl oc sp bd bi cod nh nw nd nx nk nl ns nt nb nc rsl rsr rwd rbw rcf rcs rct rcw rtk ren rtg rce rbx rst rbn rbt rht rtt rnu rbv rhd rtl st ws ty cm lc c1 c2) (hv : vv nc ty cm T tg num x) (h1 : c1' ≤ c1) (h2 : c2' ≤ c2) (nt' : Nat) :
    rc_ok ln P kN vl oc sp bd bi cod nh (nw + 1) nd nx nk nl ns nt' nb nc rsl rsr (upd rwd nw x) rbw rcf rcs rct rcw rtk ren (upd rtg nw tg) rce rbx rst rbn rbt rht rtt (upd rnu nw num) rbv rhd rtl st ((T, tg, num, x) :: ws) ty cm lc c1' c2' := by
  obtain ⟨a1, a2, a3, a4, a5, a6, a7, a8, a9, a10, a11, a12, a13⟩ := h
  refine ⟨a1, by rw [a2, List.length_cons], a3, a4, a5, a6, a7, a8, a9, ⟨?_, ?_, ?_, hv, wo_ext (Nat.le_refl _) (fun _ _ => ⟨rfl, rfl⟩) ws (fun j hj => ⟨pk_un (by omega), pk_un (by omega), pk_un (by omega)⟩) a10⟩, a11, by omega, by omega⟩
  · rw [← a2, pk_us]
  · rw [← a2, pk_us]
  · rw [← a2, pk_us]
theorem rc_pop {nh nw nd nx nk nl ns nt nb nc : Nat} {rsl rsr rwd rbw rcf rcs rct rcw rtk ren rtg rce rbx rst rbn rbt rht rtt rnu rbv rhd rtl : Nat → Int32} {st : List FE} {w : FV} {ws : List FV} {ty : Nat → mt_T} {cm lc : Nat → Nat} {c1 c2 : Nat} (h : rc_ok ln P kN vl oc sp bd bi cod nh (nw + 1) nd nx nk nl ns nt nb nc rsl rsr rwd rbw rcf rcs rct rcw rtk ren rtg rce rbx rst rbn rbt rht rtt rnu rbv rhd rtl st (w :: ws) ty cm lc c1 c2) :
    rc_ok ln P kN vl oc sp bd bi cod nh nw nd nx nk nl ns nt nb nc rsl rsr rwd rbw rcf rcs rct rcw rtk ren rtg rce rbx rst rbn rbt rht rtt rnu rbv rhd rtl st ws ty cm lc c1 c2 ∧ rwd nw = w.2.2.2 ∧ rtg nw = w.2.1 ∧ rnu nw = w.2.2.1 ∧ vv nc ty cm w.1 w.2.1 w.2.2.1 w.2.2.2 := by
  obtain ⟨a1, a2, a3, a4, a5, a6, a7, a8, a9, ⟨b1, b2, b3, b4, b5⟩, a11, a12, a13⟩ := h
  have e : nw = ws.length := by simp only [List.length_cons] at a2; omega
  rw [← e] at b1 b2 b3
  exact ⟨⟨a1, e, a3, a4, a5, a6, a7, a8, a9, b5, a11, a12, a13⟩, b1, b2, b3, b4⟩
theorem st_none {T0 : mt_T} {px : Int32 → SX → Prop} {B : (Int32 → SY → Prop) → Prop} {mu : Nat} {nh nw nd nx nk nl ns nt nb nc : Nat} {rsl rsr rwd rbw rcf rcs rct rcw rtk ren rtg rce rbx rst rbn rbt rht rtt rnu rbv rhd rtl : Nat → Int32} {st : List FE} {w : FV} {ws : List FV} {ty : Nat → mt_T} {cm lc : Nat → Nat}
    (hk : kk ln P kN vl oc sp bd bi cod T0 px B mu f_saidPlace f_instanceCount f_nodeCount f_equationCount f_stackCount f_wordCount f_depth f_cellCount f_consCount f_closureCount f_stepCount f_runAnswer f_writtenCount a_kinds a_values a_spans a_bounds a_binders a_lengths a_parameterCounts a_typeCodes a_typeLengths a_instanceFunctions a_nodeKinds a_nodeLefts a_nodeRights a_nodeSizes a_equationLefts a_equationRights a_stackLefts a_stackRights a_words a_boundWords a_cellFirsts a_cellSeconds a_closureTokens a_closureWords a_written yf_place yf_points yf_names yf_textEnd yf_made yf_entry yf_waiting yf_values yf_bound yf_cells yf_conses yf_lams yf_steps yf_atWork yf_end yf_writtenCount ya_kind ya_up ya_turn ya_depth ya_value ya_below ya_length ya_parameters ya_codes ya_codeCount ya_form ya_colour ya_same ya_one ya_two ya_todo ya_numbered ya_text ya_ofFunction ya_codeEnd ya_instance ya_token ya_env ya_tag ya_cellEnv ya_boundNext ya_step ya_boundNumber ya_boundTag ya_headTag ya_tailTag ya_number ya_boundValue ya_head ya_tail ya_written) (h : rn_ok ln P kN vl oc sp bd bi cod T0 (mu + 1) nh nw nd nx nk nl ns nt nb nc rsl rsr rwd rbw rcf rcs rct rcw rtk ren rtg rce rbx rst rbn rbt rht rtt rnu rbv rhd rtl (none :: st) w ws ty cm lc) (hY : ∀ Q, (∃ n, wY_run_75 Q n yf_place yf_points yf_names yf_textEnd yf_made yf_entry (nI nt) (nI nw) (nI nb) (nI nc) (nI nk) (nI nl) (nI ns) (nI nd) 0 yf_writtenCount ya_kind ya_up ya_turn ya_depth ya_value ya_below ya_length ya_parameters ya_codes ya_codeCount ya_form ya_colour ya_same ya_one ya_two ya_todo ya_numbered ya_text ya_ofFunction ya_codeEnd ya_instance rtk ren rtg rce rbx rst rbn rbt rht rtt rnu rbv rhd rtl ya_written) → B Q) (h525 : nh ≤ 525) : wpX_goOn px (f_saidPlace, f_instanceCount, f_nodeCount, f_equationCount, (nI nh), (nI nw), (nI nd), (nI nx), (nI nk), (nI nl), (nI ns), 0, f_writtenCount, a_kinds, a_values, a_spans, a_bounds, a_binders, a_lengths, a_parameterCounts, a_typeCodes, a_typeLengths, a_instanceFunctions, a_nodeKinds, a_nodeLefts, a_nodeRights, a_nodeSizes, a_equationLefts, a_equationRights, rsl, rsr, rwd, rbw, rcf, rcs, rct, rcw, a_written) := by
  obtain ⟨⟨c1, c2, c3, c4, c5, c6, c7, c8, ⟨s1, s2, s3⟩, c10, c11, c12, c13⟩, ⟨lim, d', e1, e2, e3, e4, e5⟩, d1, d5⟩ := h
  obtain ⟨m, rfl⟩ : ∃ m, nh = m + 1 := ⟨nh - 1, by simp only [List.length_cons] at c1; omega⟩
  have em : m = st.length := by simp only [List.length_cons] at c1; omega
  subst d1 e1
  rw [← em] at s1 s2
  have cw : (nI m).toNatClampNeg = m := nI_clamp (by omega)
  have hY' : ∀ Q, (∃ n, wY_run_75 Q n yf_place yf_points yf_names yf_textEnd yf_made yf_entry (nI m) (nI nw) (nI nb) (nI nc) (nI nk) (nI nl) (nI ns) (nI d') 0 yf_writtenCount ya_kind ya_up ya_turn ya_depth ya_value ya_below ya_length ya_parameters ya_codes ya_codeCount ya_form ya_colour ya_same ya_one ya_two ya_todo ya_numbered ya_text ya_ofFunction ya_codeEnd ya_instance rtk ren rtg rce rbx rst rbn rbt rht rtt rnu rbv rhd rtl ya_written) → B Q := by
    rintro Q ⟨n, hn⟩
    refine hY Q ⟨n + 1, ?_⟩
    refine br_f (nI_nle (by omega) (by omega)) (br_t rfl (nm_r (nI_pred m) (And.intro (pk_in m 1200 (by omega)) (nm_r (e' := -1) (by rw [cw, s2]) ?_))))
    exact br_f (by decide) (nm_r (nI_pred m) (nm_r (nI_pred d') hn))
  refine nm_r (nI_pred m) (And.intro (pk_in m 525 (by omega)) (nm_r (e' := -1) (by rw [cw, s1]) (br_t rfl (nm_r (nI_pred d') ?_))))
  refine hk.2.1 m nw d' nx nk nl ns m nb nc rsl rsr rwd rbw rcf rcs rct rcw rtk ren rtg rce rbx rst rbn rbt rht rtt rnu rbv rhd rtl st w ws ty cm lc ⟨⟨em, c2, by omega, c4, c5, c6, c7, c8, s3, c10, c11, ?_, ?_⟩, ⟨_, e5⟩, rfl, ?_⟩ hY'
  · have : wt (fG sp (G1 kN)) 0 (none :: st) = 0 + wt (fG sp (G1 kN)) 0 st := rfl
    omega
  · have : wt (fG sp (G2 kN)) 0 (none :: st) = 0 + wt (fG sp (G2 kN)) 0 st := rfl
    omega
  · exact ar_fin (F := 1) (by omega) d5
/-- the next operand is begun -/
theorem st_next {T0 : mt_T} {px : Int32 → SX → Prop} {B : (Int32 → SY → Prop) → Prop} {mu : Nat} {nh nw nd nx nk nl ns nt nb nc : Nat} {rsl rsr rwd rbw rcf rcs rct rcw rtk ren rtg rce rbx rst rbn rbt rht rtt rnu rbv rhd rtl : Nat → Int32} {g t s : Nat} {e : Int32} {rho : Nat → mt_T} {st : List FE} {w : FV} {ws : List FV} {ty : Nat → mt_T} {cm lc : Nat → Nat} (hlib : lib ln P kN vl oc sp bd bi cod) (hmx : mx_ok ln P kN vl sp bd a_kinds a_values a_spans a_bounds a_lengths a_parameterCounts) (hmy : my_ok ln P kN vl oc sp ya_kind ya_value ya_below ya_parameters)
    (hk : kk ln P kN vl oc sp bd bi cod T0 px B mu f_saidPlace f_instanceCount f_nodeCount f_equationCount f_stackCount f_wordCount f_depth f_cellCount f_consCount f_closureCount f_stepCount f_runAnswer f_writtenCount a_kinds a_values a_spans a_bounds a_binders a_lengths a_parameterCounts a_typeCodes a_typeLengths a_instanceFunctions a_nodeKinds a_nodeLefts a_nodeRights a_nodeSizes a_equationLefts a_equationRights a_stackLefts a_stackRights a_words a_boundWords a_cellFirsts a_cellSeconds a_closureTokens a_closureWords a_written yf_place yf_points yf_names yf_textEnd yf_made yf_entry yf_waiting yf_values yf_bound yf_cells yf_conses yf_lams yf_steps yf_atWork yf_end yf_writtenCount ya_kind ya_up ya_turn ya_depth ya_value ya_below ya_length ya_parameters ya_codes ya_codeCount ya_form ya_colour ya_same ya_one ya_two ya_todo ya_numbered ya_text ya_ofFunction ya_codeEnd ya_instance ya_token ya_env ya_tag ya_cellEnv ya_boundNext ya_step ya_boundNumber ya_boundTag ya_headTag ya_tailTag ya_number ya_boundValue ya_head ya_tail ya_written) (h : rn_ok ln P kN vl oc sp bd bi cod T0 (mu + 1) nh nw nd nx nk nl ns nt nb nc rsl rsr rwd rbw rcf rcs rct rcw rtk ren rtg rce rbx rst rbn rbt rht rtt rnu rbv rhd rtl (some (g, t, s, e, rho) :: st) w ws ty cm lc) (hY : ∀ Q, (∃ n, wY_run_75 Q n yf_place yf_points yf_names yf_textEnd yf_made yf_entry (nI nt) (nI nw) (nI nb) (nI nc) (nI nk) (nI nl) (nI ns) (nI nd) 0 yf_writtenCount ya_kind ya_up ya_turn ya_depth ya_value ya_below ya_length ya_parameters ya_codes ya_codeCount ya_form ya_colour ya_same ya_one ya_two ya_todo ya_numbered ya_text ya_ofFunction ya_codeEnd ya_instance rtk ren rtg rce rbx rst rbn rbt rht rtt rnu rbv rhd rtl ya_written) → B Q) (h10 : kN g t ≠ 10) (h11 : kN g t ≠ 11) (h14 : kN g t ≠ 14) (h0 : s + 1 < oc g t) : wpX_goOn px (f_saidPlace, f_instanceCount, f_nodeCount, f_equationCount, (nI nh), (nI nw), (nI nd), (nI nx), (nI nk), (nI nl), (nI ns), 0, f_writtenCount, a_kinds, a_values, a_spans, a_bounds, a_binders, a_lengths, a_parameterCounts, a_typeCodes, a_typeLengths, a_instanceFunctions, a_nodeKinds, a_nodeLefts, a_nodeRights, a_nodeSizes, a_equationLefts, a_equationRights, rsl, rsr, rwd, rbw, rcf, rcs, rct, rcw, a_written) := by
  obtain ⟨⟨c1, c2, c3, c4, c5, c6, c7, c8, ⟨s1, s2, s3, s4, s5, s6⟩, c10, c11, c12, c13⟩, ⟨lim, hfr, hnm, h15, hA, hlim, ws', hws, hs1, hs2, hko⟩, d1, d5⟩ := h
  have hfr0 := hfr
  obtain ⟨a1, a2, a3, a4, a5, a6⟩ := hfr0
  obtain ⟨l1, l2, l3, l4, l5, l6⟩ := lib1 hlib a1 a2
  obtain ⟨n24, hbw, _, tr, hbt⟩ := l1
  have b1 := (hbt t a3).1
  obtain ⟨m1, m2, m3⟩ := hmx g a1 a2
  obtain ⟨k1, k2, k3, k4, k5⟩ := m3 t a3
  obtain ⟨_, y2⟩ := hmy g a1 a2
  obtain ⟨z1, z2, z3⟩ := y2 t a3
  obtain ⟨m, rfl⟩ : ∃ m, nh = m + 1 := ⟨nh - 1, by simp only [List.length_cons] at c1; omega⟩
  have em : m = st.length := by simp only [List.length_cons] at c1; omega
  subst d1
  rw [← em] at s1 s2 s3 s4 s5
  have ho2 := (tok_oc hlib a1 a2 a3).2.2.1 h10 h11
  have es : s = 0 := by omega
  subst es
  have ews : ws = ws' := by
    rcases hws with ⟨_, z⟩ | ⟨z, _⟩
    · exact z
    · omega
  subst ews
  have enm : nm (kN g t) (oc g t) = oc g t := nm_o h10 h11 h14
  have h0' : 1 < oc g t := h0
  obtain ⟨w1, w2, w3⟩ := bw_in hbw a3 h0'
  have w3' : jp (sp g) t 0 < ln g := (bw_in hbw a3 (by omega : 0 < oc g t)).2.2
  have hb0 : bn (kN g t) 1 = 0 := bn0 h15 (Or.inr (Or.inl ⟨h10, h14⟩))
  obtain ⟨hfc, hbc⟩ := fr_child hlib hfr h0' hb0
  have hnb : nb ≤ 3415 := by omega
  have cw : (nI m).toNatClampNeg = m := nI_clamp (by omega)
  have cx : (nI ((5 + g) * 24 + t)).toNatClampNeg = (5 + g) * 24 + t := nI_clamp (by omega)
  have hes := fr_s hfr (by omega)
  have hm525 : m < 525 := by omega
  have hY' : ∀ Q, (∃ n, wY_run_75 Q n yf_place yf_points yf_names yf_textEnd yf_made yf_entry (nI (m + 1 + 1)) (nI nw) (nI nb) (nI nc) (nI nk) (nI nl) (nI ns) (nI nd) 0 yf_writtenCount ya_kind ya_up ya_turn ya_depth ya_value ya_below ya_length ya_parameters ya_codes ya_codeCount ya_form ya_colour ya_same ya_one ya_two ya_todo ya_numbered ya_text ya_ofFunction ya_codeEnd ya_instance (upd rtk (m + 1) (nI (24 * (6 + g) + jp (sp g) t 1))) (upd ren (m + 1) e) rtg rce rbx (upd (upd rst m (nI 2)) (m + 1) 0) rbn rbt rht rtt rnu rbv rhd rtl ya_written) → B Q := by
    rintro Q ⟨n, hn⟩
    refine hY Q ⟨n + 1, ?_⟩
    refine br_f (nI_nle (by omega) (by omega)) (br_t rfl (nm_r (nI_pred m) (And.intro (pk_in m 1200 (by omega)) (nm_r (e' := nI (24 * (6 + g) + t)) (by rw [cw, s3]) ?_))))
    refine br_t (nI_le (a := 0) (by omega) (by omega)) (And.intro (pk_in m 1200 (by omega)) (nm_r (e' := e) (by rw [cw, s4]) ?_))
    refine y_ocm hlib hmy a1 a2 a3 (And.intro (pk_in m 1200 (by omega)) ?_)
    rw [if_neg h15, cw, s5, enm]
    refine br_f (nI_ge (by omega) (by omega)) (And.intro (pk_in m 1200 (by omega)) (And.intro (pk_in m 1200 (by omega)) (nm_r (e' := upd rst m (nI 2)) (by exact congrArg _ (nr_b (n := 2) (by omega))) ?_)))
    refine y_child (j := 1) a1 (by omega) (by omega) (z3 1 h0) ?_
    exact y_later (by omega) (short_tok a1 (by omega)) hes hn
  refine nm_r (nI_pred m) (And.intro (pk_in m 525 (by omega)) (nm_r (e' := nI ((5 + g) * 24 + t)) (by rw [cw, s1]) (br_f (ni_ne1 (by omega)) (And.intro (pk_in ((5 + g) * 24 + t) 264 (by omega)) (nm_r (e' := nI (kN g t)) (by rw [cx, k1]) ?_)))))
  refine pk_eq (kN g t) 11 (fun z => absurd z h11) (fun _ => pk_eq (kN g t) 10 (fun z => absurd z h10) (fun _ => pk_eq (kN g t) 14 (fun z => absurd z h14) (fun _ => And.intro (pk_in m 525 (by omega)) (nm_r (e' := nI 1) (by rw [cw, s2]; rfl) ?_))))
  refine x_ocm hlib hmx a1 a2 a3 (br_f (nI_ge (a := 1) (by omega) (by omega)) (x_push hm525 ?_))
  refine x_operandAt (B := (5 + g) * 24) (t := t) (sp := sp g) (j := 1) (by omega) (fun i hi => ?_) ?_
  · have ei : i = 0 := by omega
    subst ei
    exact ⟨by omega, (m3 _ w3').2.2.2.1⟩
  · refine hk.1 (m + 1) nw nd nx nk nl ns (m + 1 + 1) nb nc (upd rsl m (nI ((5 + g) * 24 + t))) (upd rsr m (nI 1)) rwd rbw rcf rcs rct rcw (upd rtk (m + 1) (nI (24 * (6 + g) + jp (sp g) t 1))) (upd ren (m + 1) e) rtg rce rbx (upd (upd rst m (nI 2)) (m + 1) 0) rbn rbt rht rtt rnu rbv rhd rtl g (jp (sp g) t 1) e rho (some (g, t, 1, e, rho) :: st) (w :: ws) ty cm lc ?_ hY'
    have bd1 : fG sp (G1 kN) g t 1 + pA sp (G1 kN) g (jp (sp g) t 1) ≤ fG sp (G1 kN) g t 0 := b_next (G := G1 kN) hbw a3 h0
    have bd2 : fG sp (G2 kN) g t 1 + pA sp (G2 kN) g (jp (sp g) t 1) ≤ fG sp (G2 kN) g t 0 := b_next (G := G2 kN) hbw a3 h0
    have td := t_next hbw a3 h0
    have w4 := (hbw.2.2 _ w3).1
    have w5 := (hbw.2.2 _ w3').1
    have e0 : jp (sp g) t 1 = t + 1 + sp g (t + 1) := rfl
    have e00 : jp (sp g) t 0 = t + 1 := rfl
    rw [e00] at w5
    have q12 : wt (fG sp (G1 kN)) 0 (some (g, t, 0, e, rho) :: st) = fG sp (G1 kN) g t 0 + wt (fG sp (G1 kN)) 0 st := rfl
    have q13 : wt (fG sp (G2 kN)) 0 (some (g, t, 0, e, rho) :: st) = fG sp (G2 kN) g t 0 + wt (fG sp (G2 kN)) 0 st := rfl
    rw [q12] at c12
    rw [q13] at c13
    refine ⟨⟨by rw [em, List.length_cons], c2, c3, c4, c5, c6, c7, c8, ⟨by rw [← em, pk_us], by rw [← em, pk_us], ?_, ?_, ?_, sx_ext st (fun j hj => ⟨pk_un (by omega), pk_un (by omega), pk_un (by omega), pk_un (by omega), ?_⟩) s6⟩, c10, c11, ?_, ?_⟩, hfc, ⟨hfr, by omega, h15, rfl, by omega, ws, Or.inr ⟨rfl, w, rfl, hA⟩, hs1, hs2, hko⟩, ?_, ?_, rfl, pk_us, pk_us, pk_us, ?_⟩
    · rw [← em, pk_un (by omega)]; exact s3
    · rw [← em, pk_un (by omega)]; exact s4
    · rw [← em, pk_un (by omega), pk_us]
    · rw [pk_un (by omega), pk_un (by omega)]
    · show nx + (fG sp (G1 kN) g t 1 + wt (fG sp (G1 kN)) 0 st) + _ ≤ _
      omega
    · show nb + (fG sp (G2 kN) g t 1 + wt (fG sp (G2 kN)) 0 st) + _ ≤ _
      omega
    · simp only [List.length_cons]; omega
    · simp only [List.length_cons]; omega
    · exact ar_next td w4 d5

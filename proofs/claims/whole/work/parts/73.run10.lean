variable {f_saidPlace f_instanceCount f_nodeCount f_equationCount f_stackCount f_wordCount f_depth f_cellCount f_consCount f_closureCount f_stepCount f_runAnswer f_writtenCount : Int32} {a_kinds a_values a_spans a_bounds a_binders a_lengths a_parameterCounts a_typeCodes a_typeLengths a_instanceFunctions a_nodeKinds a_nodeLefts a_nodeRights a_nodeSizes a_equationLefts a_equationRights a_stackLefts a_stackRights a_words a_boundWords a_cellFirsts a_cellSeconds a_closureTokens a_closureWords a_written : Nat → Int32}
variable {yf_place yf_points yf_names yf_textEnd yf_made yf_entry yf_waiting yf_values yf_bound yf_cells yf_conses yf_lams yf_steps yf_atWork yf_end yf_writtenCount : Int32} {ya_kind ya_up ya_turn ya_depth ya_value ya_below ya_length ya_parameters ya_codes ya_codeCount ya_form ya_colour ya_same ya_one ya_two ya_todo ya_numbered ya_text ya_ofFunction ya_codeEnd ya_instance ya_token ya_env ya_tag ya_cellEnv ya_boundNext ya_step ya_boundNumber ya_boundTag ya_headTag ya_tailTag ya_number ya_boundValue ya_head ya_tail ya_written : Nat → Int32}
variable {ln P : Nat → Nat} {kN : Nat → Nat → Nat} {vl : Nat → Nat → Int32} {oc sp bd bi : Nat → Nat → Nat} {cod : Nat → List Nat}
theorem ix10 (d k : Nat) : nI d * 10 + nI k = nI (d * 10 + k) := by rw [show nI d * 10 = nI (d * 10) from pk_mul d 10, nI_add]
theorem x_kc28 {post : SX → Prop} {a n d c w : Nat} (ha : a < 264) (hn : n ≤ 10) (hd : d ≤ 20) (hc : c < 40) (hw : w < 525) (hb : a_bounds a = nI n)
    (hP : ∀ cw : Nat → Int32, (∀ k, k < n → cw (c * 10 + k) = a_boundWords (d * 10 + k)) → (∀ j, j < c * 10 → cw j = a_closureWords j) → post (f_saidPlace, f_instanceCount, f_nodeCount, f_equationCount, f_stackCount, (nI (w + 1)), (nI d), f_cellCount, f_consCount, (nI (c + 1)), f_stepCount, f_runAnswer, f_writtenCount, a_kinds, a_values, a_spans, a_bounds, a_binders, a_lengths, a_parameterCounts, a_typeCodes, a_typeLengths, a_instanceFunctions, a_nodeKinds, a_nodeLefts, a_nodeRights, a_nodeSizes, a_equationLefts, a_equationRights, a_stackLefts, a_stackRights, (upd a_words w (nI c)), a_boundWords, a_cellFirsts, a_cellSeconds, a_closureTokens, cw, a_written)) :
    ∀ q k fu (cw : Nat → Int32), k + q = n → q < fu → (∀ i, i < k → cw (c * 10 + i) = a_boundWords (d * 10 + i)) → (∀ j, j < c * 10 → cw j = a_closureWords j) → wX_keepClosure_28 post (nI a) f_saidPlace f_instanceCount f_nodeCount f_equationCount f_stackCount (nI w) (nI d) f_cellCount f_consCount (nI c) f_stepCount f_runAnswer f_writtenCount fu (nI k) a_kinds a_values a_spans a_bounds a_binders a_lengths a_parameterCounts a_typeCodes a_typeLengths a_instanceFunctions a_nodeKinds a_nodeLefts a_nodeRights a_nodeSizes a_equationLefts a_equationRights a_stackLefts a_stackRights a_words a_boundWords a_cellFirsts a_cellSeconds a_closureTokens cw a_written := by
  have ca : (nI a).toNatClampNeg = a := nI_clamp (by omega)
  intro q
  induction q with
  | zero =>
    intro k fu cw hk hfu h1 h2
    obtain ⟨fu, rfl⟩ : ∃ g, fu = g + 1 := ⟨fu - 1, by omega⟩
    have e : k = n := by omega
    subst e
    refine And.intro (pk_in a 264 ha) ?_
    rw [ca, hb]
    exact br_t (nI_le (Nat.le_refl _) (by omega)) (x_pushWord hw (nm_r (nI_1 c) (hP cw h1 h2)))
  | succ q ih =>
    intro k fu cw hk hfu h1 h2
    obtain ⟨fu, rfl⟩ : ∃ g, fu = g + 1 := ⟨fu - 1, by omega⟩
    refine And.intro (pk_in a 264 ha) ?_
    rw [ca, hb]
    refine br_f (nI_ge (by omega) (by omega)) (And.intro (pk_in (d * 10 + k) 210 (by omega) (ix10 d k)) (And.intro (pk_in (c * 10 + k) 400 (by omega) (ix10 c k)) (nm_r (e' := upd cw (c * 10 + k) (a_boundWords (d * 10 + k))) (by rw [ix10, ix10, nI_clamp (by omega), nI_clamp (by omega)]) (nm_r (nI_1 k) (ih (k + 1) fu _ (by omega) (by omega) (fun i hi => ?_) (fun j hj => ?_))))))
    · by_cases z : i = k
      · rw [z, pk_us]
      · rw [pk_un (by omega)]; exact h1 i (by omega)
    · rw [pk_un (by omega)]; exact h2 j hj
/-- LAM -/
theorem st_lam {T0 : mt_T} {px : Int32 → SX → Prop} {B : (Int32 → SY → Prop) → Prop} {mu : Nat} {nh nw nd nx nk nl ns nt nb nc : Nat} {rsl rsr rwd rbw rcf rcs rct rcw rtk ren rtg rce rbx rst rbn rbt rht rtt rnu rbv rhd rtl : Nat → Int32} {g t : Nat} {e : Int32} {rho : Nat → mt_T} {st : List FE} {ws : List FV} {ty : Nat → mt_T} {cm lc : Nat → Nat} (hlib : lib ln P kN vl oc sp bd bi cod) (hmx : mx_ok ln P kN vl sp bd a_kinds a_values a_spans a_bounds a_lengths a_parameterCounts) (hmy : my_ok ln P kN vl oc sp ya_kind ya_value ya_below ya_parameters)
    (hk : kk ln P kN vl oc sp bd bi cod T0 px B mu f_saidPlace f_instanceCount f_nodeCount f_equationCount f_stackCount f_wordCount f_depth f_cellCount f_consCount f_closureCount f_stepCount f_runAnswer f_writtenCount a_kinds a_values a_spans a_bounds a_binders a_lengths a_parameterCounts a_typeCodes a_typeLengths a_instanceFunctions a_nodeKinds a_nodeLefts a_nodeRights a_nodeSizes a_equationLefts a_equationRights a_stackLefts a_stackRights a_words a_boundWords a_cellFirsts a_cellSeconds a_closureTokens a_closureWords a_written yf_place yf_points yf_names yf_textEnd yf_made yf_entry yf_waiting yf_values yf_bound yf_cells yf_conses yf_lams yf_steps yf_atWork yf_end yf_writtenCount ya_kind ya_up ya_turn ya_depth ya_value ya_below ya_length ya_parameters ya_codes ya_codeCount ya_form ya_colour ya_same ya_one ya_two ya_todo ya_numbered ya_text ya_ofFunction ya_codeEnd ya_instance ya_token ya_env ya_tag ya_cellEnv ya_boundNext ya_step ya_boundNumber ya_boundTag ya_headTag ya_tailTag ya_number ya_boundValue ya_head ya_tail ya_written) (h : ra_ok ln P kN vl oc sp bd bi cod T0 (mu + 1) nh nw nd nx nk nl ns nt nb nc rsl rsr rwd rbw rcf rcs rct rcw rtk ren rtg rce rbx rst rbn rbt rht rtt rnu rbv rhd rtl g t e rho st ws ty cm lc) (hY : ∀ Q, (∃ n, wY_run_75 Q n yf_place yf_points yf_names yf_textEnd yf_made yf_entry (nI nt) (nI nw) (nI nb) (nI nc) (nI nk) (nI nl) (nI ns) (nI nd) 0 yf_writtenCount ya_kind ya_up ya_turn ya_depth ya_value ya_below ya_length ya_parameters ya_codes ya_codeCount ya_form ya_colour ya_same ya_one ya_two ya_todo ya_numbered ya_text ya_ofFunction ya_codeEnd ya_instance rtk ren rtg rce rbx rst rbn rbt rht rtt rnu rbv rhd rtl ya_written) → B Q) (hkt : kN g t = 15) : wpX_begin px (f_saidPlace, f_instanceCount, f_nodeCount, f_equationCount, (nI nh), (nI nw), (nI nd), (nI nx), (nI nk), (nI nl), (nI ns), 0, f_writtenCount, a_kinds, a_values, a_spans, a_bounds, a_binders, a_lengths, a_parameterCounts, a_typeCodes, a_typeLengths, a_instanceFunctions, a_nodeKinds, a_nodeLefts, a_nodeRights, a_nodeSizes, a_equationLefts, a_equationRights, rsl, rsr, rwd, rbw, rcf, rcs, rct, rcw, a_written) (nI ((5 + g) * 24 + t)) := by
  obtain ⟨hrc, hfr, hko, hs1, hs2, d1, d2, d3, d4, d5⟩ := h
  have hfr0 := hfr
  obtain ⟨a1, a2, a3, a4, a5, a6⟩ := hfr
  obtain ⟨⟨n24, hbw, _, tr, hbt⟩, _, _, l4, _, _⟩ := lib1 hlib a1 a2
  obtain ⟨_, _, m3⟩ := hmx g a1 a2
  obtain ⟨k1, _, _, _, k5⟩ := m3 t a3
  obtain ⟨_, y2⟩ := hmy g a1 a2
  obtain ⟨z1, z2, z3⟩ := y2 t a3
  have w4 := (hbw.2.2 t a3).1
  have h10 := l4 t a3
  have hru := a5.2 t a3
  unfold ru_t at hru
  rw [hkt] at hru
  have hru' : rho t = .branch 4 (rho (24 + 2 * t)) (rho (jp (sp g) t 0)) := hru
  subst d1
  have hrc0 := hrc
  obtain ⟨c1, c2, c3, c4, c5, c6, c7, c8, c9, c10, c11, c12, c13⟩ := hrc
  have hnb : nb ≤ 3415 := by omega
  have hnh : nh < 600 := by omega
  have hnw : nw < 525 := by omega
  have hnc : nc < 3000 := by omega
  have cx : (nI ((5 + g) * 24 + t)).toNatClampNeg = (5 + g) * 24 + t := nI_clamp (by omega)
  have cy : (nI (24 * (6 + g) + t)).toNatClampNeg = 24 * (6 + g) + t := nI_clamp (by omega)
  have cn : (nI nc).toNatClampNeg = nc := nI_clamp (by omega)
  have pp : vp_in (nI (24 * (6 + g) + t)) 264 := pk_in (24 * (6 + g) + t) 264 (by omega)
  have hes := fr_s hfr0 (by omega)
  have hn0 : (if kN g t = 15 then 0 else nm (kN g t) (oc g t)) = 0 := if_pos hkt
  have ygo : ∀ {Q n}, wpY_lam (fun u => match u with | (yf_place, yf_points, yf_names, yf_textEnd, yf_made, yf_entry, yf_waiting, yf_values, yf_bound, yf_cells, yf_conses, yf_lams, yf_steps, yf_atWork, yf_end, yf_writtenCount, ya_kind, ya_up, ya_turn, ya_depth, ya_value, ya_below, ya_length, ya_parameters, ya_codes, ya_codeCount, ya_form, ya_colour, ya_same, ya_one, ya_two, ya_todo, ya_numbered, ya_text, ya_ofFunction, ya_codeEnd, ya_instance, ya_token, ya_env, ya_tag, ya_cellEnv, ya_boundNext, ya_step, ya_boundNumber, ya_boundTag, ya_headTag, ya_tailTag, ya_number, ya_boundValue, ya_head, ya_tail, ya_written) => wY_run_75 Q n yf_place yf_points yf_names yf_textEnd yf_made yf_entry yf_waiting yf_values yf_bound yf_cells yf_conses yf_lams yf_steps yf_atWork yf_end yf_writtenCount ya_kind ya_up ya_turn ya_depth ya_value ya_below ya_length ya_parameters ya_codes ya_codeCount ya_form ya_colour ya_same ya_one ya_two ya_todo ya_numbered ya_text ya_ofFunction ya_codeEnd ya_instance ya_token ya_env ya_tag ya_cellEnv ya_boundNext ya_step ya_boundNumber ya_boundTag ya_headTag ya_tailTag ya_number ya_boundValue ya_head ya_tail ya_written) (yf_place, yf_points, yf_names, yf_textEnd, yf_made, yf_entry, (nI nh), (nI nw), (nI nb), (nI nc), (nI nk), (nI nl), (nI ns), (nI nd), 0, yf_writtenCount, ya_kind, ya_up, ya_turn, ya_depth, ya_value, ya_below, ya_length, ya_parameters, ya_codes, ya_codeCount, ya_form, ya_colour, ya_same, ya_one, ya_two, ya_todo, ya_numbered, ya_text, ya_ofFunction, ya_codeEnd, ya_instance, rtk, ren, rtg, rce, rbx, rst, rbn, rbt, rht, rtt, rnu, rbv, rhd, rtl, ya_written) (nI (24 * (6 + g) + t)) e → B Q := by
    intro Q n hh
    refine hY Q ⟨n + 1, y_leafgo hlib hmy a1 a2 a3 hnh d2 d3 d4 hn0 (Or.inr (Or.inr hkt)) ?_⟩
    exact And.intro pp (nm_r (e' := 15) (by rw [cy, z1, hkt]; rfl) (Exists.intro 1 (br_f (by decide) (br_f (by decide) (br_t (by decide) (br_f (by decide) (br_f (by decide) (br_t rfl hh))))))))
  refine And.intro (pk_in ((5 + g) * 24 + t) 264 (by omega)) ?_
  rw [cx, k1, hkt]
  refine br_t rfl (pk_eq nl 40 (fun y => ?_) (fun y => ?_))
  · refine hk.2.2 nh nw nd nx nk nl ns nh nb nc rsl rsr rwd rbw rcf rcs rct rcw rtk ren rtg rce rbx rst rbn rbt rht rtt rnu rbv rhd rtl 7 (nI nk) (nI nl) (nI nw) (nI nx) (nI nh) (nI nh) (nI nl + 1) (nI nk) (nI nw) (nI nb) (nI nc) (by decide) ?_
    rintro Q ⟨n, hn⟩
    exact ygo (n := n) (nm_e (br_t (by rw [y]; rfl) hn))
  · refine And.intro (pk_in nl 40 (by omega)) (nm_r (e' := upd rct nl (nI ((5 + g) * 24 + t))) (by rw [nI_clamp (by omega)]) (Exists.intro (bd g t + 1) ?_))
    refine x_kc28 (a := (5 + g) * 24 + t) (n := bd g t) (by omega) h10 c3 (by omega) hnw k5 (fun cw q1 q2 => ?_) (bd g t) 0 (bd g t + 1) _ (by omega) (by omega) (fun i hi => by omega) (fun _ _ => rfl)
    have hext : ∀ i, i < nc → updG ty nc (rho t) i = ty i ∧ updN cm nc nl i = cm i := fun i hi => ⟨uG_n (by omega), uN_n (by omega)⟩
    have hrc' : rc_ok ln P kN vl oc sp bd bi cod nh nw nd nx nk (nl + 1) ns nh nb (nc + 1) rsl rsr rwd rbw rcf rcs (upd rct nl (nI ((5 + g) * 24 + t))) cw rtk ren rtg (upd rce nc e) rbx rst rbn rbt rht rtt rnu rbv (upd rhd nc (nI (24 * (6 + g) + t))) rtl st ws (updG ty nc (rho t)) (updN cm nc nl) lc 0 0 := by
      refine ⟨c1, c2, c3, c4, c5, by omega, by omega, c8, c9, wo_ext (by omega) hext ws (fun _ _ => ⟨rfl, rfl, rfl⟩) c10, fun i hi => ?_, by omega, by omega⟩
      by_cases z : i < nc
      · exact ce_ext hlib (c11 i z) z (by omega) (fun j hj => ⟨uG_n (by omega), uN_n (by omega), rfl⟩) (Nat.le_refl _) (fun _ _ => ⟨rfl, rfl, rfl, rfl⟩) (Nat.le_refl _) (by omega) (Nat.le_refl _) (fun _ _ => ⟨rfl, rfl⟩) (fun j hj => pk_un (by omega)) q2 (fun j hj => ⟨rfl, rfl, pk_un (by omega), rfl, pk_un (by omega)⟩)
      · have ei : i = nc := by omega
        subst ei
        refine Or.inr (Or.inr ⟨_, _, by rw [uG_s]; exact hru', by rw [uN_s]; omega, g, t, rho, a1, a2, a3, hkt, a4, a5, hru', pk_us, by rw [uN_s, pk_us], ?_⟩)
        rw [pk_us, uN_s]
        exact ev_ext a6 (by omega) hext (Nat.le_refl _) (fun _ _ => ⟨rfl, rfl, rfl, rfl⟩) (fun k hk => q1 k hk) (fun _ _ => rfl)
    have hv : vv (nc + 1) (updG ty nc (rho t)) (updN cm nc nl) (rho t) 4 (nI nc) (nI nl) := by
      have : vv (nc + 1) (updG ty nc (rho t)) (updN cm nc nl) (.branch 4 (rho (24 + 2 * t)) (rho (jp (sp g) t 0))) 4 (nI nc) (nI nl) := Or.inr ⟨nc, by omega, rfl, by rw [uN_s], by rw [uG_s]; exact hru', Or.inr (Or.inr ⟨rfl, rfl⟩)⟩
      rw [← hru'] at this; exact this
    refine hk.2.1 nh (nw + 1) nd nx nk (nl + 1) ns nh nb (nc + 1) rsl rsr (upd rwd nw (nI nl)) rbw rcf rcs (upd rct nl (nI ((5 + g) * 24 + t))) cw rtk ren (upd rtg nw 4) (upd rce nc e) rbx rst rbn rbt rht rtt (upd rnu nw (nI nc)) rbv (upd rhd nc (nI (24 * (6 + g) + t))) rtl st (rho t, 4, nI nc, nI nl) ws _ _ lc ⟨rc_push hrc' hv (Nat.zero_le _) (Nat.zero_le _) nh, ⟨_, ko_ext (by omega) hext (Nat.le_refl _) (fun _ _ => ⟨rfl, rfl, rfl, rfl⟩) _ _ _ _ _ (fun _ _ => rfl) hko⟩, rfl, ar_leaf w4 d5⟩ ?_
    rintro Q ⟨n, hn⟩
    refine ygo (n := n) (nm_r (nI_1 nl) (br_f (fun v => y ((nI_eq (b := 40) (by omega) (by omega)).mp v)) (And.intro (pk_in nc 3000 hnc) (nm_r (e' := upd rce nc e) (by rw [cn, hes]) (And.intro (pk_in nc 3000 hnc) (nm_r (e' := upd rhd nc (nI (24 * (6 + g) + t))) (by rw [cn]) (nm_r (nI_1 nc) ?_)))))))
    exact y_push (k := 4) (by omega) (by omega) rfl hn

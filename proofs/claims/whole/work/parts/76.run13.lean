variable {f_saidPlace f_instanceCount f_nodeCount f_equationCount f_stackCount f_wordCount f_depth f_cellCount f_consCount f_closureCount f_stepCount f_runAnswer f_writtenCount : Int32} {a_kinds a_values a_spans a_bounds a_binders a_lengths a_parameterCounts a_typeCodes a_typeLengths a_instanceFunctions a_nodeKinds a_nodeLefts a_nodeRights a_nodeSizes a_equationLefts a_equationRights a_stackLefts a_stackRights a_words a_boundWords a_cellFirsts a_cellSeconds a_closureTokens a_closureWords a_written : Nat → Int32}
variable {yf_place yf_points yf_names yf_textEnd yf_made yf_entry yf_waiting yf_values yf_bound yf_cells yf_conses yf_lams yf_steps yf_atWork yf_end yf_writtenCount : Int32} {ya_kind ya_up ya_turn ya_depth ya_value ya_below ya_length ya_parameters ya_codes ya_codeCount ya_form ya_colour ya_same ya_one ya_two ya_todo ya_numbered ya_text ya_ofFunction ya_codeEnd ya_instance ya_token ya_env ya_tag ya_cellEnv ya_boundNext ya_step ya_boundNumber ya_boundTag ya_headTag ya_tailTag ya_number ya_boundValue ya_head ya_tail ya_written : Nat → Int32}
variable {ln P : Nat → Nat} {kN : Nat → Nat → Nat} {vl : Nat → Nat → Int32} {oc sp bd bi : Nat → Nat → Nat} {cod : Nat → List Nat}
theorem ar_one {F W m n2 : Nat} (h : 1 ≤ F) (d5 : F + W + n2 ≤ m + 1) : 1 + W + n2 ≤ m + 1 := by omega
/-- CALL with operands -/
theorem st_callN {T0 : mt_T} {px : Int32 → SX → Prop} {B : (Int32 → SY → Prop) → Prop} {mu : Nat} {nh nw nd nx nk nl ns nt nb nc : Nat} {rsl rsr rwd rbw rcf rcs rct rcw rtk ren rtg rce rbx rst rbn rbt rht rtt rnu rbv rhd rtl : Nat → Int32} {g t s : Nat} {e : Int32} {rho : Nat → mt_T} {st : List FE} {w : FV} {ws : List FV} {ty : Nat → mt_T} {cm lc : Nat → Nat} (hlib : lib ln P kN vl oc sp bd bi cod) (hmx : mx_ok ln P kN vl sp bd a_kinds a_values a_spans a_bounds a_lengths a_parameterCounts) (hmy : my_ok ln P kN vl oc sp ya_kind ya_value ya_below ya_parameters)
    (hk : kk ln P kN vl oc sp bd bi cod T0 px B mu f_saidPlace f_instanceCount f_nodeCount f_equationCount f_stackCount f_wordCount f_depth f_cellCount f_consCount f_closureCount f_stepCount f_runAnswer f_writtenCount a_kinds a_values a_spans a_bounds a_binders a_lengths a_parameterCounts a_typeCodes a_typeLengths a_instanceFunctions a_nodeKinds a_nodeLefts a_nodeRights a_nodeSizes a_equationLefts a_equationRights a_stackLefts a_stackRights a_words a_boundWords a_cellFirsts a_cellSeconds a_closureTokens a_closureWords a_written yf_place yf_points yf_names yf_textEnd yf_made yf_entry yf_waiting yf_values yf_bound yf_cells yf_conses yf_lams yf_steps yf_atWork yf_end yf_writtenCount ya_kind ya_up ya_turn ya_depth ya_value ya_below ya_length ya_parameters ya_codes ya_codeCount ya_form ya_colour ya_same ya_one ya_two ya_todo ya_numbered ya_text ya_ofFunction ya_codeEnd ya_instance ya_token ya_env ya_tag ya_cellEnv ya_boundNext ya_step ya_boundNumber ya_boundTag ya_headTag ya_tailTag ya_number ya_boundValue ya_head ya_tail ya_written) (h : rn_ok ln P kN vl oc sp bd bi cod T0 (mu + 1) nh nw nd nx nk nl ns nt nb nc rsl rsr rwd rbw rcf rcs rct rcw rtk ren rtg rce rbx rst rbn rbt rht rtt rnu rbv rhd rtl (some (g, t, s, e, rho) :: st) w ws ty cm lc) (hY : ∀ Q, (∃ n, wY_run_75 Q n yf_place yf_points yf_names yf_textEnd yf_made yf_entry (nI nt) (nI nw) (nI nb) (nI nc) (nI nk) (nI nl) (nI ns) (nI nd) 0 yf_writtenCount ya_kind ya_up ya_turn ya_depth ya_value ya_below ya_length ya_parameters ya_codes ya_codeCount ya_form ya_colour ya_same ya_one ya_two ya_todo ya_numbered ya_text ya_ofFunction ya_codeEnd ya_instance rtk ren rtg rce rbx rst rbn rbt rht rtt rnu rbv rhd rtl ya_written) → B Q) (k4 : kN g t = 4) (hs : oc g t ≤ s + 1) : wpX_goOn px (f_saidPlace, f_instanceCount, f_nodeCount, f_equationCount, (nI nh), (nI nw), (nI nd), (nI nx), (nI nk), (nI nl), (nI ns), 0, f_writtenCount, a_kinds, a_values, a_spans, a_bounds, a_binders, a_lengths, a_parameterCounts, a_typeCodes, a_typeLengths, a_instanceFunctions, a_nodeKinds, a_nodeLefts, a_nodeRights, a_nodeSizes, a_equationLefts, a_equationRights, rsl, rsr, rwd, rbw, rcf, rcs, rct, rcw, a_written) := by
  obtain ⟨hrc, ⟨lim, hfr, hnm, h15, hA, hlim, ws', hws, hs1, hs2, hko⟩, d1, d5⟩ := h
  obtain ⟨a1, a2, a3, a4, a5, a6⟩ := hfr
  obtain ⟨⟨n24, hbw, _, tr, hbt⟩, _, _, l4, _, _⟩ := lib1 hlib a1 a2
  have h10 := l4 t a3
  obtain ⟨h, rho', h1, h2, h3, h4, h5, h6, h7, h8⟩ := call_rho hlib a1 a2 a3 a4 a5 k4
  have enm : nm (kN g t) (oc g t) = oc g t := nm_o (by omega) (by omega) (by omega)
  rw [enm] at hnm
  have eo : oc g t = s + 1 := by omega
  have hj := (bw_in hbw a3 (by omega : s < oc g t)).2.2
  have hjs : t + 1 + s ≤ jp (sp g) t s := by
    rcases hws with ⟨z, _⟩ | ⟨z, _⟩
    · subst z; exact Nat.le_refl _
    · subst z
      have e1 : jp (sp g) t 1 = t + 1 + sp g (t + 1) := rfl
      have hj0 : jp (sp g) t 0 < ln g := (bw_in hbw a3 (by omega : 0 < oc g t)).2.2
      have e0 : jp (sp g) t 0 = t + 1 := rfl
      rw [e0] at hj0
      have := (hbw.2.2 _ hj0).1
      omega
  obtain ⟨m, rfl⟩ : ∃ m, nh = m + 1 := ⟨nh - 1, by have := hrc.1; simp only [List.length_cons] at this; omega⟩
  subst d1
  obtain ⟨hrc1, s1, s2, s3, s4, s5⟩ := rc_st hrc m
  have hm : m = st.length := hrc1.1
  have c3 := hrc1.2.2.1
  have cx : (nI ((5 + g) * 24 + t)).toNatClampNeg = (5 + g) * 24 + t := nI_clamp (by omega)
  have cy : (nI (24 * (6 + g) + t)).toNatClampNeg = 24 * (6 + g) + t := nI_clamp (by omega)
  have p : vp_in (nI ((5 + g) * 24 + t)) 264 := pk_in ((5 + g) * 24 + t) 264 (by omega)
  have pp : vp_in (nI (24 * (6 + g) + t)) 264 := pk_in (24 * (6 + g) + t) 264 (by omega)
  obtain ⟨_, _, m3⟩ := hmx g a1 a2
  have k1 := (m3 t a3).1
  obtain ⟨_, y2⟩ := hmy g a1 a2
  have z1 := (y2 t a3).1
  -- the words below, and those of the operands
  obtain ⟨q, eq, hrcq, hty⟩ : ∃ q, nw = q + P h ∧ rc_ok ln P kN vl oc sp bd bi cod m q nd nx nk nl ns m nb nc rsl rsr rwd rbw rcf rcs rct rcw rtk ren rtg rce rbx rst rbn rbt rht rtt rnu rbv rhd rtl st ws' ty cm lc 0 0 ∧ ∀ j, j < P h → vv nc ty cm (rho' (72 + j)) (rtg (q + j)) (rnu (q + j)) (rwd (q + j)) := by
    have weak : ∀ {q : Nat}, rc_ok ln P kN vl oc sp bd bi cod m q nd nx nk nl ns m nb nc rsl rsr rwd rbw rcf rcs rct rcw rtk ren rtg rce rbx rst rbn rbt rht rtt rnu rbv rhd rtl st ws' ty cm lc (fG sp (G1 kN) g t s + 0) (fG sp (G2 kN) g t s + 0) → rc_ok ln P kN vl oc sp bd bi cod m q nd nx nk nl ns m nb nc rsl rsr rwd rbw rcf rcs rct rcw rtk ren rtg rce rbx rst rbn rbt rht rtt rnu rbv rhd rtl st ws' ty cm lc 0 0 := by
      intro q hr
      obtain ⟨r1, r2, r3, r4, r5, r6, r7, r8, r9, r10, r11, r12, r13⟩ := hr
      exact ⟨r1, r2, r3, r4, r5, r6, r7, r8, r9, r10, r11, by omega, by omega⟩
    obtain ⟨q1, rfl⟩ : ∃ q1, nw = q1 + 1 := ⟨nw - 1, by have := hrc1.2.1; simp only [List.length_cons] at this; omega⟩
    obtain ⟨hrc2, v1, v2, v3, v4⟩ := rc_pop hrc1
    rcases hws with ⟨z, ew⟩ | ⟨z, w0, ew, hA0⟩
    · subst ew z
      refine ⟨q1, by omega, weak hrc2, fun j hj => ?_⟩
      have ej : j = 0 := by omega
      subst ej
      rw [h7 0 (by omega), Nat.add_zero, v1, v2, v3, ← hA]; exact v4
    · subst ew z
      obtain ⟨q0, rfl⟩ : ∃ q0, q1 = q0 + 1 := ⟨q1 - 1, by have := hrc2.2.1; simp only [List.length_cons] at this; omega⟩
      obtain ⟨hrc3, u1, u2, u3, u4⟩ := rc_pop hrc2
      refine ⟨q0, by omega, weak hrc3, fun j hj => ?_⟩
      rw [h7 j hj]
      by_cases y : j = 0
      · subst y; rw [Nat.add_zero, u1, u2, u3, ← hA0]; exact u4
      · have ej : j = 1 := by omega
        subst ej; rw [v1, v2, v3, ← hA]; exact v4
  subst eq
  have hq : q = ws'.length := hrcq.2.1
  rw [← h8] at hko
  have hYY : ∀ Q n, (∃ f, wY_simple_164 (fun u => match u with | (yf_place, yf_points, yf_names, yf_textEnd, yf_made, yf_entry, yf_waiting, yf_values, yf_bound, yf_cells, yf_conses, yf_lams, yf_steps, yf_atWork, yf_end, yf_writtenCount, ya_kind, ya_up, ya_turn, ya_depth, ya_value, ya_below, ya_length, ya_parameters, ya_codes, ya_codeCount, ya_form, ya_colour, ya_same, ya_one, ya_two, ya_todo, ya_numbered, ya_text, ya_ofFunction, ya_codeEnd, ya_instance, ya_token, ya_env, ya_tag, ya_cellEnv, ya_boundNext, ya_step, ya_boundNumber, ya_boundTag, ya_headTag, ya_tailTag, ya_number, ya_boundValue, ya_head, ya_tail, ya_written) => wY_run_75 Q n yf_place yf_points yf_names yf_textEnd yf_made yf_entry yf_waiting yf_values yf_bound yf_cells yf_conses yf_lams yf_steps yf_atWork yf_end yf_writtenCount ya_kind ya_up ya_turn ya_depth ya_value ya_below ya_length ya_parameters ya_codes ya_codeCount ya_form ya_colour ya_same ya_one ya_two ya_todo ya_numbered ya_text ya_ofFunction ya_codeEnd ya_instance ya_token ya_env ya_tag ya_cellEnv ya_boundNext ya_step ya_boundNumber ya_boundTag ya_headTag ya_tailTag ya_number ya_boundValue ya_head ya_tail ya_written) (nI (24 * (6 + g) + t)) (nI (P h)) f (-1) 0 yf_place yf_points yf_names yf_textEnd yf_made yf_entry (nI m) (nI q) (nI nb) (nI nc) (nI nk) (nI nl) (nI ns) (nI nd) 0 yf_writtenCount ya_kind ya_up ya_turn ya_depth ya_value ya_below ya_length ya_parameters ya_codes ya_codeCount ya_form ya_colour ya_same ya_one ya_two ya_todo ya_numbered ya_text ya_ofFunction ya_codeEnd ya_instance rtk ren rtg rce rbx rst rbn rbt rht rtt rnu rbv rhd rtl ya_written) → B Q := by
    intro Q n hn
    refine hY Q ⟨n + 1, y_pop (sv := s + 1) hlib hmy a1 a2 a3 (by omega) s3 s4 s5 (by omega) (by rw [if_neg h15, enm]; omega) (fun _ => ?_) (fun z => by omega) (fun z => by omega)⟩
    rw [if_neg h15, enm, h4]
    exact And.intro pp (nm_r (e' := 4) (by rw [cy, z1, k4]; rfl) (Exists.intro 1 (br_f (by decide) (br_f (by decide) (br_t (by decide) (br_f (by decide) (br_f (by decide) (br_f (by decide) (nm_r (e' := nI q) (by rw [pk_sub (by omega), Nat.add_sub_cancel]) hn)))))))))
  refine x_pop hlib hmx a1 a2 a3 (by omega) s1 s2 (by omega) (fun _ => ⟨hs, ?_⟩) (fun z => by omega)
  refine And.intro p (nm_r (e' := nI 4) (by rw [cx, k1, k4]) (br_t rfl ?_))
  exact st_call hlib hmx hmy hk a1 a2 a3 k4 h2 h1 h3 h5 h6 hrcq hko (by omega) (by omega) (by omega) (ar_one (fT_pos g t s) d5) (by omega) (by omega) hty hYY
/-- X's closure gives its words -/
theorem x_ec29 {post : Int32 → SX → Prop} {x1 : Int32} {a n d c : Nat} {bw0 : Nat → Int32} (ha : a < 264) (hn : n ≤ 9) (hd : d ≤ 20) (hc : c < 40) (hb : a_bounds a = nI n)
    (hP : ∀ bw : Nat → Int32, (∀ k, k < n → bw (d * 10 + k) = a_closureWords (c * 10 + k)) → bw (d * 10 + n) = x1 → (∀ j, j < d * 10 → bw j = bw0 j) → post (nI a + 1) (f_saidPlace, f_instanceCount, f_nodeCount, f_equationCount, f_stackCount, f_wordCount, (nI d), f_cellCount, f_consCount, f_closureCount, f_stepCount, f_runAnswer, f_writtenCount, a_kinds, a_values, a_spans, a_bounds, a_binders, a_lengths, a_parameterCounts, a_typeCodes, a_typeLengths, a_instanceFunctions, a_nodeKinds, a_nodeLefts, a_nodeRights, a_nodeSizes, a_equationLefts, a_equationRights, a_stackLefts, a_stackRights, a_words, bw, a_cellFirsts, a_cellSeconds, a_closureTokens, a_closureWords, a_written)) :
    ∀ q k fu (bw : Nat → Int32), k + q = n → q < fu → (∀ i, i < k → bw (d * 10 + i) = a_closureWords (c * 10 + i)) → (∀ j, j < d * 10 → bw j = bw0 j) → wX_enterClosure_29 post x1 (nI c) (nI a) f_saidPlace f_instanceCount f_nodeCount f_equationCount f_stackCount f_wordCount (nI d) f_cellCount f_consCount f_closureCount f_stepCount f_runAnswer f_writtenCount fu (nI k) a_kinds a_values a_spans a_bounds a_binders a_lengths a_parameterCounts a_typeCodes a_typeLengths a_instanceFunctions a_nodeKinds a_nodeLefts a_nodeRights a_nodeSizes a_equationLefts a_equationRights a_stackLefts a_stackRights a_words bw a_cellFirsts a_cellSeconds a_closureTokens a_closureWords a_written := by
  have ca : (nI a).toNatClampNeg = a := nI_clamp (by omega)
  intro q
  induction q with
  | zero =>
    intro k fu bw hk hfu h1 h2
    obtain ⟨fu, rfl⟩ : ∃ g, fu = g + 1 := ⟨fu - 1, by omega⟩
    have e : k = n := by omega
    subst e
    refine And.intro (pk_in a 264 ha) ?_
    rw [ca, hb]
    refine br_t (nI_le (Nat.le_refl _) (by omega)) (And.intro (pk_in a 264 ha) (And.intro (pk_in (d * 10 + k) 210 (by omega) (ix10 d k)) (nm_r (e' := upd bw (d * 10 + k) x1) (by rw [ix10, nI_clamp (by omega)]) (hP _ (fun i hi => ?_) pk_us (fun j hj => ?_)))))
    · rw [pk_un (by omega)]; exact h1 i hi
    · rw [pk_un (by omega)]; exact h2 j hj
  | succ q ih =>
    intro k fu bw hk hfu h1 h2
    obtain ⟨fu, rfl⟩ : ∃ g, fu = g + 1 := ⟨fu - 1, by omega⟩
    refine And.intro (pk_in a 264 ha) ?_
    rw [ca, hb]
    refine br_f (nI_ge (by omega) (by omega)) (And.intro (pk_in (c * 10 + k) 400 (by omega) (ix10 c k)) (And.intro (pk_in (d * 10 + k) 210 (by omega) (ix10 d k)) (nm_r (e' := upd bw (d * 10 + k) (a_closureWords (c * 10 + k))) (by rw [ix10, ix10, nI_clamp (by omega), nI_clamp (by omega)]) (nm_r (nI_1 k) (ih (k + 1) fu _ (by omega) (by omega) (fun i hi => ?_) (fun j hj => ?_))))))
    · by_cases z : i = k
      · rw [z, pk_us]
      · rw [pk_un (by omega)]; exact h1 i (by omega)
    · rw [pk_un (by omega)]; exact h2 j hj
/-- APP -/
theorem st_app {T0 : mt_T} {px : Int32 → SX → Prop} {B : (Int32 → SY → Prop) → Prop} {mu : Nat} {nh nw nd nx nk nl ns nt nb nc : Nat} {rsl rsr rwd rbw rcf rcs rct rcw rtk ren rtg rce rbx rst rbn rbt rht rtt rnu rbv rhd rtl : Nat → Int32} {g t s : Nat} {e : Int32} {rho : Nat → mt_T} {st : List FE} {w : FV} {ws : List FV} {ty : Nat → mt_T} {cm lc : Nat → Nat} (hlib : lib ln P kN vl oc sp bd bi cod) (hmx : mx_ok ln P kN vl sp bd a_kinds a_values a_spans a_bounds a_lengths a_parameterCounts) (hmy : my_ok ln P kN vl oc sp ya_kind ya_value ya_below ya_parameters)
    (hk : kk ln P kN vl oc sp bd bi cod T0 px B mu f_saidPlace f_instanceCount f_nodeCount f_equationCount f_stackCount f_wordCount f_depth f_cellCount f_consCount f_closureCount f_stepCount f_runAnswer f_writtenCount a_kinds a_values a_spans a_bounds a_binders a_lengths a_parameterCounts a_typeCodes a_typeLengths a_instanceFunctions a_nodeKinds a_nodeLefts a_nodeRights a_nodeSizes a_equationLefts a_equationRights a_stackLefts a_stackRights a_words a_boundWords a_cellFirsts a_cellSeconds a_closureTokens a_closureWords a_written yf_place yf_points yf_names yf_textEnd yf_made yf_entry yf_waiting yf_values yf_bound yf_cells yf_conses yf_lams yf_steps yf_atWork yf_end yf_writtenCount ya_kind ya_up ya_turn ya_depth ya_value ya_below ya_length ya_parameters ya_codes ya_codeCount ya_form ya_colour ya_same ya_one ya_two ya_todo ya_numbered ya_text ya_ofFunction ya_codeEnd ya_instance ya_token ya_env ya_tag ya_cellEnv ya_boundNext ya_step ya_boundNumber ya_boundTag ya_headTag ya_tailTag ya_number ya_boundValue ya_head ya_tail ya_written) (h : rn_ok ln P kN vl oc sp bd bi cod T0 (mu + 1) nh nw nd nx nk nl ns nt nb nc rsl rsr rwd rbw rcf rcs rct rcw rtk ren rtg rce rbx rst rbn rbt rht rtt rnu rbv rhd rtl (some (g, t, s, e, rho) :: st) w ws ty cm lc) (hY : ∀ Q, (∃ n, wY_run_75 Q n yf_place yf_points yf_names yf_textEnd yf_made yf_entry (nI nt) (nI nw) (nI nb) (nI nc) (nI nk) (nI nl) (nI ns) (nI nd) 0 yf_writtenCount ya_kind ya_up ya_turn ya_depth ya_value ya_below ya_length ya_parameters ya_codes ya_codeCount ya_form ya_colour ya_same ya_one ya_two ya_todo ya_numbered ya_text ya_ofFunction ya_codeEnd ya_instance rtk ren rtg rce rbx rst rbn rbt rht rtt rnu rbv rhd rtl ya_written) → B Q) (hkt : kN g t = 16) (hs : oc g t ≤ s + 1) : wpX_goOn px (f_saidPlace, f_instanceCount, f_nodeCount, f_equationCount, (nI nh), (nI nw), (nI nd), (nI nx), (nI nk), (nI nl), (nI ns), 0, f_writtenCount, a_kinds, a_values, a_spans, a_bounds, a_binders, a_lengths, a_parameterCounts, a_typeCodes, a_typeLengths, a_instanceFunctions, a_nodeKinds, a_nodeLefts, a_nodeRights, a_nodeSizes, a_equationLefts, a_equationRights, rsl, rsr, rwd, rbw, rcf, rcs, rct, rcw, a_written) := by
  obtain ⟨hrc, ⟨lim, hfr, hnm, h15, hA, hlim, ws', hws, hs1, hs2, hko⟩, d1, d5⟩ := h
  obtain ⟨a1, a2, a3, a4, a5, a6⟩ := hfr
  obtain ⟨⟨n24, _, _, _, _⟩, _, _, l4, _, _⟩ := lib1 hlib a1 a2
  have h10 := l4 t a3
  obtain ⟨t1, t2, t3, t4⟩ := tok_oc hlib a1 a2 a3
  have hru := a5.2 t a3
  unfold ru_t at hru
  rw [hkt] at hru
  have hru' : rho (jp (sp g) t 0) = .branch 4 (rho (jp (sp g) t 1)) (rho t) := hru
  obtain ⟨m, rfl⟩ : ∃ m, nh = m + 1 := ⟨nh - 1, by have := hrc.1; simp only [List.length_cons] at this; omega⟩
  have ho : oc g t = 2 := by rw [t4 (by omega), hkt]; rfl
  have enm : nm (kN g t) (oc g t) = 2 := by rw [nm_o (by omega) (by omega) (by omega), ho]
  have es : s = 1 := by omega
  subst es
  obtain ⟨w0, ew, hA0⟩ : ∃ w0, ws = w0 :: ws' ∧ w0.1 = rho (jp (sp g) t 0) := by
    rcases hws with ⟨z, _⟩ | ⟨_, z⟩
    · omega
    · exact z
  subst ew
  clear hws
  obtain ⟨q, rfl⟩ : ∃ q, nw = q + 1 + 1 := ⟨nw - 2, by have := hrc.2.1; simp only [List.length_cons] at this; omega⟩
  subst d1
  obtain ⟨hrc1, s1, s2, s3, s4, s5⟩ := rc_st hrc m
  obtain ⟨hrc2, v1, v2, v3, v4⟩ := rc_pop hrc1
  obtain ⟨hrc3, u1, u2, u3, u4⟩ := rc_pop hrc2
  have hm : m = st.length := hrc3.1
  have hq : q = ws'.length := hrc3.2.1
  have c3 := hrc3.2.2.1
  have c4 := hrc3.2.2.2.1
  obtain ⟨cnx, cnl, cnc, cnb⟩ : nx ≤ 2212 ∧ nl ≤ 40 ∧ nc ≤ 2251 ∧ nb ≤ 3415 := by
    obtain ⟨_, _, _, r4, _, r6, r7, _, _, _, _, r12, r13⟩ := hrc3
    exact ⟨by omega, r6, by omega, by omega⟩
  have hcell := hrc3.2.2.2.2.2.2.2.2.2.2.1
  have hrc4 : rc_ok ln P kN vl oc sp bd bi cod m q nd nx nk nl ns m nb nc rsl rsr rwd rbw rcf rcs rct rcw rtk ren rtg rce rbx rst rbn rbt rht rtt rnu rbv rhd rtl st ws' ty cm lc 0 0 := by
    obtain ⟨r1, r2, r3, r4, r5, r6, r7, r8, r9, r10, r11, r12, r13⟩ := hrc3
    exact ⟨r1, r2, r3, r4, r5, r6, r7, r8, r9, r10, r11, by omega, by omega⟩
  have cq : (nI q).toNatClampNeg = q := nI_clamp (by omega)
  have cq1 : (nI (q + 1)).toNatClampNeg = q + 1 := nI_clamp (by omega)
  have cx : (nI ((5 + g) * 24 + t)).toNatClampNeg = (5 + g) * 24 + t := nI_clamp (by omega)
  have cy : (nI (24 * (6 + g) + t)).toNatClampNeg = 24 * (6 + g) + t := nI_clamp (by omega)
  have p : vp_in (nI ((5 + g) * 24 + t)) 264 := pk_in ((5 + g) * 24 + t) 264 (by omega)
  have py : vp_in (nI (24 * (6 + g) + t)) 264 := pk_in (24 * (6 + g) + t) 264 (by omega)
  obtain ⟨_, _, m3⟩ := hmx g a1 a2
  have k1 := (m3 t a3).1
  obtain ⟨_, y2⟩ := hmy g a1 a2
  have z1 := (y2 t a3).1
  have e1 : nI (q + 1 + 1) - 1 = nI (q + 1) := nI_pred (q + 1)
  have e2 : nI (q + 1) - 1 = nI q := nI_pred q
  have i1 : vp_in (nI (q + 1 + 1) - 1) 1200 := pk_in (q + 1) 1200 (by omega) e1
  have i1' : vp_in (nI (q + 1)) 1200 := pk_in (q + 1) 1200 (by omega)
  have i0 : vp_in (nI (q + 1) - 1) 1200 := pk_in q 1200 (by omega) e2
  -- the closure
  rw [hA0, hru'] at u4
  obtain ⟨i, f1, f2, f3, f4, f5⟩ : ∃ i, i < nc ∧ w0.2.2.1 = nI i ∧ w0.2.2.2 = nI (cm i) ∧ ty i = .branch 4 (rho (jp (sp g) t 1)) (rho t) ∧ w0.2.1 = 4 := by
    rcases u4 with ⟨z, _⟩ | ⟨i, f1, f2, f3, f4, ⟨z, _⟩ | ⟨z, _⟩ | ⟨_, z⟩⟩
    · omega
    · omega
    · omega
    · exact ⟨i, f1, f2, f3, f4, z⟩
  obtain ⟨qc, g', t', r', r1, r2, r3, r4, r5, r6, r7, r8, r9, r10⟩ : cm i < nl ∧ ∃ g t0 r, g < 5 ∧ ln g ≠ 0 ∧ t0 < ln g ∧ kN g t0 = 15 ∧ (∀ n, mt_wf (r n)) ∧ S_t (fun _ => True) g (kN g) (vl g) (oc g) (sp g) (bd g) (bi g) cod (ln g) r ∧ r t0 = ty i ∧ rhd i = nI (24 * (6 + g) + t0) ∧ rct (cm i) = nI ((5 + g) * 24 + t0) ∧
      ev nc ty cm nb rbn rbx rbt rbv (bd g t0) (rce i) (fun k => rcw (cm i * 10 + k)) (fun k => r (wv (bi g) (bd g) t0 k)) := by
    rcases hcell i f1 with ⟨a', b', c1, _⟩ | ⟨a', b', c1, _⟩ | ⟨a', b', c1, c2, g', t', r', r1, r2, r3, r4, r5, r6, r7, r8, r9, r10⟩
    · rw [c1] at f4; injection f4 with y; omega
    · rw [c1] at f4; injection f4 with y; omega
    · exact ⟨c2, g', t', r', r1, r2, r3, r4, r5, r6, by rw [r7, c1], r8, r9, r10⟩
  obtain ⟨⟨n24', hbw', _, tr', hbt'⟩, _, _, l4', l5', _⟩ := lib1 hlib r1 r2
  have hbi' : ∀ t, t < ln g' → bi g' t ≤ t := fun t ht => (hbt' t ht).2.2.2.1
  have ho' : oc g' t' = 1 := by rw [(tok_oc hlib r1 r2 r3).2.2.2 (by omega), r4]; rfl
  have hc' := (bw_in hbw' r3 (by omega : 0 < oc g' t')).2.2
  have eb0 : jp (sp g') t' 0 = t' + 1 := rfl
  have hop := l5' t' r3 (by rw [r4]; decide)
  rw [r4] at hop
  have hop' : bd g' t' + 1 ≤ 10 := hop
  have hlam := r6.2 t' r3
  unfold ru_t at hlam
  rw [r4] at hlam
  have hlam' : r' t' = .branch 4 (r' (24 + 2 * t')) (r' (jp (sp g') t' 0)) := hlam
  rw [r7, f4] at hlam'
  injection hlam' with _ hl1 hl2
  have hbc : bd g' (jp (sp g') t' 0) = bd g' t' + 1 := by rw [(tr'.2 t' r3 0 (by omega)).1, r4]; rfl
  have nodes : ∀ k, wv (bi g') (bd g') (jp (sp g') t' 0) k = if bd g' t' ≤ k then 24 + 2 * t' + (k - bd g' t') else wv (bi g') (bd g') t' k := by
    intro k
    rw [wv_child tr' hbi' r3 (by omega) k, r4]
    by_cases y : bd g' t' ≤ k
    · rw [if_pos ⟨by decide, y⟩, if_pos y]
    · rw [if_neg (fun x => y x.2), if_neg y]
  obtain ⟨_, _, m3'⟩ := hmx g' r1 r2
  have k5' := (m3' t' r3).2.2.2.2
  obtain ⟨_, y2'⟩ := hmy g' r1 r2
  have z3' := (y2' t' r3).2.2 0 (by omega)
  obtain ⟨kt, kt4, ekt⟩ := vv_tag v4
  have ci : (nI i).toNatClampNeg = i := nI_clamp (by omega)
  have ccm : (nI (cm i)).toNatClampNeg = cm i := nI_clamp (by omega)
  have ii : vp_in (nI i) 3000 := pk_in i 3000 (by omega)
  have htok : vp_nar .short ((nI (24 * (6 + g') + jp (sp g') t' 0)).toInt16.toInt32) = nI (24 * (6 + g') + jp (sp g') t' 0) := nr_s (by omega)
  have ygo : ∀ {Q n}, wpY_enter (fun u => match u with | (yf_place, yf_points, yf_names, yf_textEnd, yf_made, yf_entry, yf_waiting, yf_values, yf_bound, yf_cells, yf_conses, yf_lams, yf_steps, yf_atWork, yf_end, yf_writtenCount, ya_kind, ya_up, ya_turn, ya_depth, ya_value, ya_below, ya_length, ya_parameters, ya_codes, ya_codeCount, ya_form, ya_colour, ya_same, ya_one, ya_two, ya_todo, ya_numbered, ya_text, ya_ofFunction, ya_codeEnd, ya_instance, ya_token, ya_env, ya_tag, ya_cellEnv, ya_boundNext, ya_step, ya_boundNumber, ya_boundTag, ya_headTag, ya_tailTag, ya_number, ya_boundValue, ya_head, ya_tail, ya_written) => wY_run_75 Q n yf_place yf_points yf_names yf_textEnd yf_made yf_entry yf_waiting yf_values yf_bound yf_cells yf_conses yf_lams yf_steps yf_atWork yf_end yf_writtenCount ya_kind ya_up ya_turn ya_depth ya_value ya_below ya_length ya_parameters ya_codes ya_codeCount ya_form ya_colour ya_same ya_one ya_two ya_todo ya_numbered ya_text ya_ofFunction ya_codeEnd ya_instance ya_token ya_env ya_tag ya_cellEnv ya_boundNext ya_step ya_boundNumber ya_boundTag ya_headTag ya_tailTag ya_number ya_boundValue ya_head ya_tail ya_written) (yf_place, yf_points, yf_names, yf_textEnd, yf_made, yf_entry, (nI m), (nI q), (nI (nb + 1)), (nI nc), (nI nk), (nI nl), (nI ns), (nI nd), 0, yf_writtenCount, ya_kind, ya_up, ya_turn, ya_depth, ya_value, ya_below, ya_length, ya_parameters, ya_codes, ya_codeCount, ya_form, ya_colour, ya_same, ya_one, ya_two, ya_todo, ya_numbered, ya_text, ya_ofFunction, ya_codeEnd, ya_instance, rtk, ren, rtg, rce, (upd rbx nb (rce i)), rst, (upd rbn nb (nI (bd g' t'))), (upd rbt nb w.2.1), rht, rtt, rnu, (upd rbv nb w.2.2.1), rhd, rtl, ya_written) (nI (24 * (6 + g') + jp (sp g') t' 0)) (nI nb) → B Q := by
    intro Q n hh
    refine hY Q ⟨n + 1, y_pop (sv := 2) hlib hmy a1 a2 a3 (by omega) s3 s4 s5 (by omega) (by rw [if_neg h15, enm]; exact Nat.le_refl _) (fun z => by omega) (fun z => by omega) (fun _ => ?_)⟩
    refine And.intro py (nm_r (e' := 16) (by rw [cy, z1, hkt]; rfl) (nm_r e1 (And.intro i1 (nm_r (e' := w.2.1) (by rw [e1, cq1, v2]) (And.intro i1' (nm_r (e' := w.2.2.1) (by rw [cq1, v3]) (br_f (by decide) (br_f (by decide) (br_f (by decide) (br_t rfl (nm_r e2 (And.intro i0 (nm_r (e' := nI i) (by rw [e2, cq, u3, f2]) (And.intro ii ?_))))))))))))))
    rw [ci]
    refine y_bind (by omega) (by omega) kt4 ekt r10 (And.intro ii ?_)
    rw [r8]
    exact y_child (j := 0) r1 (by omega) (by omega) z3' hh
  refine x_pop hlib hmx a1 a2 a3 (by omega) s1 s2 (by omega) (fun _ => ⟨hs, ?_⟩) (fun z => by omega)
  refine And.intro p (nm_r (e' := nI 16) (by rw [cx, k1, hkt]) (br_f (by decide) (br_t rfl ?_)))
  unfold wpX_enterClosure
  refine x_popWord (w := q + 1) (by omega) (x_popWord (w := q) (by omega) ?_)
  rw [u1, f3, v1]
  refine x_takeStep (h := m) (by omega) c4 c3 (fun y => br_t rfl ?_) (fun y y' => br_t rfl ?_) (fun y y' => br_f n1_0 (And.intro (pk_in (cm i) 40 (by omega)) (nm_r (e' := nI ((5 + g') * 24 + t')) (by rw [ccm, r9]) (Exists.intro (bd g' t' + 1) ?_))))
  · exact hk.2.2 m q nd nx nk nl ns m nb nc rsl rsr rwd rbw rcf rcs rct rcw rtk ren rtg rce (upd rbx nb (rce i)) rst (upd rbn nb (nI (bd g' t'))) (upd rbt nb w.2.1) rht rtt rnu (upd rbv nb w.2.2.1) rhd rtl 5 (nI nk) (nI nl) (nI q) (nI nx) (nI m) (nI m) (nI nl) (nI nk) (nI q) (nI (nb + 1)) (nI nc) (by decide) (fun Q ⟨n, hn⟩ => ygo (n := n) (y_enter (by omega) c4 c3 htok (nr_s (by omega)) (fun _ => hn) (fun v => by omega) (fun v => by omega)))
  · exact hk.2.2 m q nd nx nk nl (ns + 1) m nb nc rsl rsr rwd rbw rcf rcs rct rcw rtk ren rtg rce (upd rbx nb (rce i)) rst (upd rbn nb (nI (bd g' t'))) (upd rbt nb w.2.1) rht rtt rnu (upd rbv nb w.2.2.1) rhd rtl 6 (nI nk) (nI nl) (nI q) (nI nx) (nI m) (nI m) (nI nl) (nI nk) (nI q) (nI (nb + 1)) (nI nc) (by decide) (fun Q ⟨n, hn⟩ => ygo (n := n) (y_enter (by omega) c4 c3 htok (nr_s (by omega)) (fun v => by omega) (fun _ _ => hn) (fun _ v => by omega)))
  · refine x_ec29 (a := (5 + g') * 24 + t') (n := bd g' t') (d := nd + 1) (c := cm i) (bw0 := rbw) (by omega) (by omega) (by omega) (by omega) k5' (fun bw w1 w2 w3 => ?_) (bd g' t') 0 (bd g' t' + 1) rbw (by omega) (by omega) (fun i hi => by omega) (fun _ _ => rfl)
    rw [hl2] at hko
    have key := st_body (b0 := jp (sp g') t' 0) (nb' := nb + 1) (e := nI nb) (bw' := bw) (z1 := -1) (z2 := -1) hlib hk hrc4 hko (by omega) (by omega) (by omega) (ar_one (fT_pos g t 1) d5) y y' r1 r2 hc' r5 r6 (by omega) (by omega) (fun b hb => ⟨pk_un (by omega), pk_un (by omega), pk_un (by omega), pk_un (by omega)⟩) w3 (by
      rw [hbc]
      refine ev_bind r10 ?_ (fun k hk => ?_) (fun k hk => ?_)
      · rw [w2, nodes, if_pos (Nat.le_refl _), Nat.sub_self, Nat.add_zero, ← hl1, ← hA]; exact v4
      · exact w1 k hk
      · rw [nodes, if_neg (by omega)]) (fun Q n hn => ygo (n := n) (y_enter (by omega) c4 c3 htok (nr_s (by omega)) (fun v => by omega) (fun _ v => by omega) (fun _ _ => hn)))
    rcases key with key | key
    · rw [nI_1]
      exact key
    · exact absurd rfl key

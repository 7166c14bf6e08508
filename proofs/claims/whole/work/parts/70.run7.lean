variable {f_saidPlace f_instanceCount f_nodeCount f_equationCount f_stackCount f_wordCount f_depth f_cellCount f_consCount f_closureCount f_stepCount f_runAnswer f_writtenCount : Int32} {a_kinds a_values a_spans a_bounds a_binders a_lengths a_parameterCounts a_typeCodes a_typeLengths a_instanceFunctions a_nodeKinds a_nodeLefts a_nodeRights a_nodeSizes a_equationLefts a_equationRights a_stackLefts a_stackRights a_words a_boundWords a_cellFirsts a_cellSeconds a_closureTokens a_closureWords a_written : Nat → Int32}
variable {yf_place yf_points yf_names yf_textEnd yf_made yf_entry yf_waiting yf_values yf_bound yf_cells yf_conses yf_lams yf_steps yf_atWork yf_end yf_writtenCount : Int32} {ya_kind ya_up ya_turn ya_depth ya_value ya_below ya_length ya_parameters ya_codes ya_codeCount ya_form ya_colour ya_same ya_one ya_two ya_todo ya_numbered ya_text ya_ofFunction ya_codeEnd ya_instance ya_token ya_env ya_tag ya_cellEnv ya_boundNext ya_step ya_boundNumber ya_boundTag ya_headTag ya_tailTag ya_number ya_boundValue ya_head ya_tail ya_written : Nat → Int32}
variable {ln P : Nat → Nat} {kN : Nat → Nat → Nat} {vl : Nat → Nat → Int32} {oc sp bd bi : Nat → Nat → Nat} {cod : Nat → List Nat}
theorem fG_own (G : Nat → Nat → Nat) (g t s : Nat) : G g t ≤ fG sp G g t s := by unfold fG; omega
theorem fT_pos (g t s : Nat) : 1 ≤ fT sp g t s := by unfold fT; omega
/-- FIRST, SECOND -/
theorem st_one {T0 : mt_T} {px : Int32 → SX → Prop} {B : (Int32 → SY → Prop) → Prop} {mu : Nat} {nh nw nd nx nk nl ns nt nb nc : Nat} {rsl rsr rwd rbw rcf rcs rct rcw rtk ren rtg rce rbx rst rbn rbt rht rtt rnu rbv rhd rtl : Nat → Int32} {g t s : Nat} {e : Int32} {rho : Nat → mt_T} {st : List FE} {w : FV} {ws : List FV} {ty : Nat → mt_T} {cm lc : Nat → Nat} (hlib : lib ln P kN vl oc sp bd bi cod) (hmx : mx_ok ln P kN vl sp bd a_kinds a_values a_spans a_bounds a_lengths a_parameterCounts) (hmy : my_ok ln P kN vl oc sp ya_kind ya_value ya_below ya_parameters)
    (hk : kk ln P kN vl oc sp bd bi cod T0 px B mu f_saidPlace f_instanceCount f_nodeCount f_equationCount f_stackCount f_wordCount f_depth f_cellCount f_consCount f_closureCount f_stepCount f_runAnswer f_writtenCount a_kinds a_values a_spans a_bounds a_binders a_lengths a_parameterCounts a_typeCodes a_typeLengths a_instanceFunctions a_nodeKinds a_nodeLefts a_nodeRights a_nodeSizes a_equationLefts a_equationRights a_stackLefts a_stackRights a_words a_boundWords a_cellFirsts a_cellSeconds a_closureTokens a_closureWords a_written yf_place yf_points yf_names yf_textEnd yf_made yf_entry yf_waiting yf_values yf_bound yf_cells yf_conses yf_lams yf_steps yf_atWork yf_end yf_writtenCount ya_kind ya_up ya_turn ya_depth ya_value ya_below ya_length ya_parameters ya_codes ya_codeCount ya_form ya_colour ya_same ya_one ya_two ya_todo ya_numbered ya_text ya_ofFunction ya_codeEnd ya_instance ya_token ya_env ya_tag ya_cellEnv ya_boundNext ya_step ya_boundNumber ya_boundTag ya_headTag ya_tailTag ya_number ya_boundValue ya_head ya_tail ya_written) (h : rn_ok ln P kN vl oc sp bd bi cod T0 (mu + 1) nh nw nd nx nk nl ns nt nb nc rsl rsr rwd rbw rcf rcs rct rcw rtk ren rtg rce rbx rst rbn rbt rht rtt rnu rbv rhd rtl (some (g, t, s, e, rho) :: st) w ws ty cm lc) (hY : ∀ Q, (∃ n, wY_run_75 Q n yf_place yf_points yf_names yf_textEnd yf_made yf_entry (nI nt) (nI nw) (nI nb) (nI nc) (nI nk) (nI nl) (nI ns) (nI nd) 0 yf_writtenCount ya_kind ya_up ya_turn ya_depth ya_value ya_below ya_length ya_parameters ya_codes ya_codeCount ya_form ya_colour ya_same ya_one ya_two ya_todo ya_numbered ya_text ya_ofFunction ya_codeEnd ya_instance rtk ren rtg rce rbx rst rbn rbt rht rtt rnu rbv rhd rtl ya_written) → B Q) (hkt : kN g t = 6 ∨ kN g t = 7) : wpX_goOn px (f_saidPlace, f_instanceCount, f_nodeCount, f_equationCount, (nI nh), (nI nw), (nI nd), (nI nx), (nI nk), (nI nl), (nI ns), 0, f_writtenCount, a_kinds, a_values, a_spans, a_bounds, a_binders, a_lengths, a_parameterCounts, a_typeCodes, a_typeLengths, a_instanceFunctions, a_nodeKinds, a_nodeLefts, a_nodeRights, a_nodeSizes, a_equationLefts, a_equationRights, rsl, rsr, rwd, rbw, rcf, rcs, rct, rcw, a_written) := by
  obtain ⟨hrc, ⟨lim, hfr, hnm, h15, hA, hlim, ws', hws, hs1, hs2, hko⟩, d1, d5⟩ := h
  obtain ⟨a1, a2, a3, a4, a5, a6⟩ := hfr
  have n24 := (lib1 hlib a1 a2).1.1
  obtain ⟨t1, t2, t3, t4⟩ := tok_oc hlib a1 a2 a3
  have hru := a5.2 t a3
  obtain ⟨m, rfl⟩ : ∃ m, nh = m + 1 := ⟨nh - 1, by have := hrc.1; simp only [List.length_cons] at this; omega⟩
  obtain ⟨q, rfl⟩ : ∃ q, nw = q + 1 := ⟨nw - 1, by have := hrc.2.1; simp only [List.length_cons] at this; omega⟩
  have ho : oc g t = 1 := by
    rw [t4 (by omega)]
    rcases hkt with z | z <;> rw [z] <;> rfl
  have enm : nm (kN g t) (oc g t) = 1 := by rw [nm_o (by omega) (by omega) (by omega), ho]
  have es : s = 0 := by omega
  subst es
  have ews : ws = ws' := by
    rcases hws with ⟨_, z⟩ | ⟨z, _⟩
    · exact z
    · omega
  subst ews
  subst d1
  obtain ⟨hrc1, s1, s2, s3, s4, s5⟩ := rc_st hrc m
  obtain ⟨hrc2, v1, v2, v3, v4⟩ := rc_pop hrc1
  have hm : m = st.length := hrc2.1
  have hq : q = ws.length := hrc2.2.1
  have c3 := hrc2.2.2.1
  obtain ⟨cnx, cnl, cnc⟩ : nx ≤ 2212 ∧ nl ≤ 40 ∧ nc ≤ 2251 := by
    obtain ⟨_, _, _, r4, _, r6, r7, _, _, _, _, r12, _⟩ := hrc2
    exact ⟨by omega, r6, by omega⟩
  have hcell := hrc2.2.2.2.2.2.2.2.2.2.2.1
  have cq : (nI q).toNatClampNeg = q := nI_clamp (by omega)
  have cx : (nI ((5 + g) * 24 + t)).toNatClampNeg = (5 + g) * 24 + t := nI_clamp (by omega)
  have p : vp_in (nI ((5 + g) * 24 + t)) 264 := pk_in ((5 + g) * 24 + t) 264 (by omega)
  obtain ⟨_, _, m3⟩ := hmx g a1 a2
  have k1 := (m3 t a3).1
  -- the pair
  have hpair : ∃ a b i, rho (jp (sp g) t 0) = .branch 2 a b ∧ (kN g t = 6 → a = rho t) ∧ (kN g t = 7 → b = rho t) ∧ i < nc ∧ w.2.1 = 1 ∧ w.2.2.1 = nI i ∧ w.2.2.2 = nI (cm i) ∧ cm i < nx ∧ vv nc ty cm a (rht i) (rhd i) (rcf (cm i)) ∧ vv nc ty cm b (rtt i) (rtl i) (rcs (cm i)) := by
    have key : ∀ a b, rho (jp (sp g) t 0) = .branch 2 a b → ∃ i, i < nc ∧ w.2.1 = 1 ∧ w.2.2.1 = nI i ∧ w.2.2.2 = nI (cm i) ∧ cm i < nx ∧ vv nc ty cm a (rht i) (rhd i) (rcf (cm i)) ∧ vv nc ty cm b (rtt i) (rtl i) (rcs (cm i)) := by
      intro a b e1
      rw [hA, e1] at v4
      rcases v4 with ⟨z, _⟩ | ⟨i, i1, i2, i3, i4, i5⟩
      · omega
      · have i6 : w.2.1 = 1 := by
          rcases i5 with ⟨_, z⟩ | ⟨z, _⟩ | ⟨z, _⟩
          · exact z
          · omega
          · omega
        rcases hcell i i1 with ⟨a', b', r1, r2, r3, r4, r5⟩ | ⟨a', b', r1, _⟩ | ⟨a', b', r1, _⟩
        · rw [r1] at i4
          injection i4 with _ ea eb
          subst ea eb
          exact ⟨i, i1, i6, i2, i3, r3, vv_ext r4 (by omega) (fun _ _ => ⟨rfl, rfl⟩), vv_ext r5 (by omega) (fun _ _ => ⟨rfl, rfl⟩)⟩
        · rw [r1] at i4; injection i4 with z; omega
        · rw [r1] at i4; injection i4 with z; omega
    unfold ru_t at hru
    rcases hkt with z | z
    · rw [z] at hru
      obtain ⟨y, _, hy⟩ := hru
      obtain ⟨i, hi⟩ := key _ _ hy
      exact ⟨_, _, i, hy, fun _ => rfl, fun w => by omega, hi⟩
    · rw [z] at hru
      obtain ⟨y, _, hy⟩ := hru
      obtain ⟨i, hi⟩ := key _ _ hy
      exact ⟨_, _, i, hy, fun w => by omega, fun _ => rfl, hi⟩
  obtain ⟨a, b, i, _, e6, e7, i1, i2, i3, i4, i5, i6, i7⟩ := hpair
  have ci : (nI i).toNatClampNeg = i := nI_clamp (by omega)
  have ccm : (nI (cm i)).toNatClampNeg = cm i := nI_clamp (by omega)
  have e2 : nI (q + 1) - 1 = nI q := nI_pred q
  have fin : ∀ (tg num x : Int32), vv nc ty cm (rho t) tg num x →
      (∀ {post : SY → Prop}, post (yf_place, yf_points, yf_names, yf_textEnd, yf_made, yf_entry, (nI m), (nI (q + 1)), (nI nb), (nI nc), (nI nk), (nI nl), (nI ns), (nI nd), 0, yf_writtenCount, ya_kind, ya_up, ya_turn, ya_depth, ya_value, ya_below, ya_length, ya_parameters, ya_codes, ya_codeCount, ya_form, ya_colour, ya_same, ya_one, ya_two, ya_todo, ya_numbered, ya_text, ya_ofFunction, ya_codeEnd, ya_instance, rtk, ren, (upd rtg q tg), rce, rbx, rst, rbn, rbt, rht, rtt, (upd rnu q num), rbv, rhd, rtl, ya_written) → wpY_reckon post (yf_place, yf_points, yf_names, yf_textEnd, yf_made, yf_entry, (nI m), (nI (q + 1)), (nI nb), (nI nc), (nI nk), (nI nl), (nI ns), (nI nd), 0, yf_writtenCount, ya_kind, ya_up, ya_turn, ya_depth, ya_value, ya_below, ya_length, ya_parameters, ya_codes, ya_codeCount, ya_form, ya_colour, ya_same, ya_one, ya_two, ya_todo, ya_numbered, ya_text, ya_ofFunction, ya_codeEnd, ya_instance, rtk, ren, rtg, rce, rbx, rst, rbn, rbt, rht, rtt, rnu, rbv, rhd, rtl, ya_written) (nI (kN g t))) →
      (px (-1) (f_saidPlace, f_instanceCount, f_nodeCount, f_equationCount, (nI m), (nI (q + 1)), (nI nd), (nI nx), (nI nk), (nI nl), (nI ns), 0, f_writtenCount, a_kinds, a_values, a_spans, a_bounds, a_binders, a_lengths, a_parameterCounts, a_typeCodes, a_typeLengths, a_instanceFunctions, a_nodeKinds, a_nodeLefts, a_nodeRights, a_nodeSizes, a_equationLefts, a_equationRights, rsl, rsr, (upd rwd q x), rbw, rcf, rcs, rct, rcw, a_written) → wpX_finish (fun r u => match u with | (f_saidPlace, f_instanceCount, f_nodeCount, f_equationCount, f_stackCount, f_wordCount, f_depth, f_cellCount, f_consCount, f_closureCount, f_stepCount, f_runAnswer, f_writtenCount, a_kinds, a_values, a_spans, a_bounds, a_binders, a_lengths, a_parameterCounts, a_typeCodes, a_typeLengths, a_instanceFunctions, a_nodeKinds, a_nodeLefts, a_nodeRights, a_nodeSizes, a_equationLefts, a_equationRights, a_stackLefts, a_stackRights, a_words, a_boundWords, a_cellFirsts, a_cellSeconds, a_closureTokens, a_closureWords, a_written) => px r (f_saidPlace, f_instanceCount, f_nodeCount, f_equationCount, f_stackCount, f_wordCount, f_depth, f_cellCount, f_consCount, f_closureCount, f_stepCount, f_runAnswer, f_writtenCount, a_kinds, a_values, a_spans, a_bounds, a_binders, a_lengths, a_parameterCounts, a_typeCodes, a_typeLengths, a_instanceFunctions, a_nodeKinds, a_nodeLefts, a_nodeRights, a_nodeSizes, a_equationLefts, a_equationRights, a_stackLefts, a_stackRights, a_words, a_boundWords, a_cellFirsts, a_cellSeconds, a_closureTokens, a_closureWords, a_written)) (f_saidPlace, f_instanceCount, f_nodeCount, f_equationCount, (nI m), (nI (q + 1)), (nI nd), (nI nx), (nI nk), (nI nl), (nI ns), 0, f_writtenCount, a_kinds, a_values, a_spans, a_bounds, a_binders, a_lengths, a_parameterCounts, a_typeCodes, a_typeLengths, a_instanceFunctions, a_nodeKinds, a_nodeLefts, a_nodeRights, a_nodeSizes, a_equationLefts, a_equationRights, rsl, rsr, rwd, rbw, rcf, rcs, rct, rcw, a_written) (nI ((5 + g) * 24 + t))) → wpX_goOn px (f_saidPlace, f_instanceCount, f_nodeCount, f_equationCount, (nI (m + 1)), (nI (q + 1)), (nI nd), (nI nx), (nI nk), (nI nl), (nI ns), 0, f_writtenCount, a_kinds, a_values, a_spans, a_bounds, a_binders, a_lengths, a_parameterCounts, a_typeCodes, a_typeLengths, a_instanceFunctions, a_nodeKinds, a_nodeLefts, a_nodeRights, a_nodeSizes, a_equationLefts, a_equationRights, rsl, rsr, rwd, rbw, rcf, rcs, rct, rcw, a_written) := by
    intro tg num x hv hy hx
    refine x_pop hlib hmx a1 a2 a3 (by omega) s1 s2 (by omega) (fun _ => ⟨by omega, hx (hk.2.1 m (q + 1) nd nx nk nl ns m nb nc rsl rsr (upd rwd q x) rbw rcf rcs rct rcw rtk ren (upd rtg q tg) rce rbx rst rbn rbt rht rtt (upd rnu q num) rbv rhd rtl st (rho t, tg, num, x) ws ty cm lc ⟨rc_push hrc2 hv (Nat.zero_le _) (Nat.zero_le _) m, ⟨_, hko⟩, rfl, ar_fin (fT_pos g t 0) d5⟩ ?_)⟩) (fun z => by omega)
    rintro Q ⟨n, hn⟩
    exact hY Q ⟨n + 1, y_pop (sv := 1) hlib hmy a1 a2 a3 (by omega) s3 s4 s5 (by omega) (by rw [if_neg h15, enm]; exact Nat.le_refl _) (fun z => by omega) (fun _ => hy hn) (fun z => by omega)⟩
  obtain ⟨kt1, _, ekt1⟩ := vv_tag i6
  obtain ⟨kt2, _, ekt2⟩ := vv_tag i7
  rcases hkt with z | z
  · rw [e6 z] at i6
    refine fin _ _ _ i6 (fun {post} hp => ?_) (fun hp => ?_)
    · rw [z]
      refine nm_r e2 (nm_e (br_t rfl (And.intro (pk_in q 1200 (by omega)) (nm_r (e' := nI i) (by rw [cq, v3, i3]) (nm_r e2 (br_t rfl (And.intro (pk_in i 3000 (by omega)) (br_t rfl (And.intro (pk_in i 3000 (by omega)) ?_)))))))))
      rw [ci]
      exact y_push (by omega) (by omega) ekt1 hp
    · refine And.intro p (nm_r (e' := nI 6) (by rw [cx, k1, z]) (br_f (by decide) (br_f (by decide) (x_popWord (by omega) (br_t rfl (br_t rfl (And.intro ?_ ?_)))))))
      · rw [v1, i4]; exact pk_in (cm i) 4825 (by omega)
      · rw [v1, i4, ccm]
        exact x_pushWord (by omega) hp
  · rw [e7 z] at i7
    refine fin _ _ _ i7 (fun {post} hp => ?_) (fun hp => ?_)
    · rw [z]
      refine nm_r e2 (nm_e (br_f (by decide) (br_t rfl (And.intro (pk_in q 1200 (by omega)) (nm_r (e' := nI i) (by rw [cq, v3, i3]) (nm_r e2 (br_f (by decide) (And.intro (pk_in i 3000 (by omega)) (br_f (by decide) (And.intro (pk_in i 3000 (by omega)) ?_))))))))))
      rw [ci]
      exact y_push (by omega) (by omega) ekt2 hp
    · refine And.intro p (nm_r (e' := nI 7) (by rw [cx, k1, z]) (br_f (by decide) (br_f (by decide) (x_popWord (by omega) (br_f (by decide) (br_t rfl (br_f (by decide) (And.intro ?_ ?_))))))))
      · rw [v1, i4]; exact pk_in (cm i) 4825 (by omega)
      · rw [v1, i4, ccm]
        exact x_pushWord (by omega) hp

variable {f_saidPlace f_instanceCount f_nodeCount f_equationCount f_stackCount f_wordCount f_depth f_cellCount f_consCount f_closureCount f_stepCount f_runAnswer f_writtenCount : Int32} {a_kinds a_values a_spans a_bounds a_binders a_lengths a_parameterCounts a_typeCodes a_typeLengths a_instanceFunctions a_nodeKinds a_nodeLefts a_nodeRights a_nodeSizes a_equationLefts a_equationRights a_stackLefts a_stackRights a_words a_boundWords a_cellFirsts a_cellSeconds a_closureTokens a_closureWords a_written : Nat → Int32}
variable {yf_place yf_points yf_names yf_textEnd yf_made yf_entry yf_waiting yf_values yf_bound yf_cells yf_conses yf_lams yf_steps yf_atWork yf_end yf_writtenCount : Int32} {ya_kind ya_up ya_turn ya_depth ya_value ya_below ya_length ya_parameters ya_codes ya_codeCount ya_form ya_colour ya_same ya_one ya_two ya_todo ya_numbered ya_text ya_ofFunction ya_codeEnd ya_instance ya_token ya_env ya_tag ya_cellEnv ya_boundNext ya_step ya_boundNumber ya_boundTag ya_headTag ya_tailTag ya_number ya_boundValue ya_head ya_tail ya_written : Nat → Int32}
variable {ln P : Nat → Nat} {kN : Nat → Nat → Nat} {vl : Nat → Nat → Int32} {oc sp bd bi : Nat → Nat → Nat} {cod : Nat → List Nat}
theorem lib1 (hlib : lib ln P kN vl oc sp bd bi cod) {g : Nat} (hg : g < 5) (hl : ln g ≠ 0) : bd_ok (ln g) (kN g) (vl g) (oc g) (sp g) (bd g) (bi g) ∧ bd g 0 = P g ∧ P g ≤ 2 ∧ (∀ t, t < ln g → bd g t ≤ 10) ∧ (∀ t, t < ln g → 0 < op (kN g t) → bd g t + op (kN g t) ≤ 10) ∧
    (∀ t, t < ln g → kN g t = 4 → ∃ h, h < 5 ∧ vl g t = nI h ∧ ln h ≠ 0 ∧ oc g t = P h) := by
  obtain ⟨l1, l2, l3, l4, l5, l6, _⟩ := hlib g hg hl
  exact ⟨l1, l2, l3, l4, l5, l6⟩
theorem x_ocm {post : Int32 → Prop} {g t : Nat} (hlib : lib ln P kN vl oc sp bd bi cod) (hmx : mx_ok ln P kN vl sp bd a_kinds a_values a_spans a_bounds a_lengths a_parameterCounts) (hg : g < 5) (hl : ln g ≠ 0) (ht : t < ln g) (hp : post (nI (oc g t))) : wpX_operandCount post (f_saidPlace, f_instanceCount, f_nodeCount, f_equationCount, f_stackCount, f_wordCount, f_depth, f_cellCount, f_consCount, f_closureCount, f_stepCount, f_runAnswer, f_writtenCount, a_kinds, a_values, a_spans, a_bounds, a_binders, a_lengths, a_parameterCounts, a_typeCodes, a_typeLengths, a_instanceFunctions, a_nodeKinds, a_nodeLefts, a_nodeRights, a_nodeSizes, a_equationLefts, a_equationRights, a_stackLefts, a_stackRights, a_words, a_boundWords, a_cellFirsts, a_cellSeconds, a_closureTokens, a_closureWords, a_written) (nI ((5 + g) * 24 + t)) := by
  obtain ⟨l1, _, _, _, _, l6, _⟩ := hlib g hg hl
  obtain ⟨_, _, m3⟩ := hmx g hg hl
  obtain ⟨k1, k2, k3, _, _⟩ := m3 t ht
  obtain ⟨c1, c2, c3, c4, c5, c6⟩ := l1.2.2.2.2 t ht
  have n24 := l1.1
  refine x_operandCount (k := kN g t) (o := oc g t) (by omega) k1 c1 (fun z => ?_) c5 hp
  obtain ⟨h, h1, h2, h3, h4⟩ := l6 t ht z
  obtain ⟨q1, q2, _⟩ := hmx h h1 h3
  have hh := (hlib h h1 h3).1.1
  exact ⟨5 + h, by omega, k2 z h h1 h2, Or.inr ⟨by rw [q1]; exact fun w => h3 ((nI0 (by omega)).mp w), by rw [q2, h4]⟩⟩
theorem y_ocm {post : Int32 → Prop} {g t : Nat} (hlib : lib ln P kN vl oc sp bd bi cod) (hmy : my_ok ln P kN vl oc sp ya_kind ya_value ya_below ya_parameters) (hg : g < 5) (hl : ln g ≠ 0) (ht : t < ln g) (hp : post (nI (if kN g t = 15 then 0 else nm (kN g t) (oc g t)))) : wpY_operandsMade post (yf_place, yf_points, yf_names, yf_textEnd, yf_made, yf_entry, yf_waiting, yf_values, yf_bound, yf_cells, yf_conses, yf_lams, yf_steps, yf_atWork, yf_end, yf_writtenCount, ya_kind, ya_up, ya_turn, ya_depth, ya_value, ya_below, ya_length, ya_parameters, ya_codes, ya_codeCount, ya_form, ya_colour, ya_same, ya_one, ya_two, ya_todo, ya_numbered, ya_text, ya_ofFunction, ya_codeEnd, ya_instance, ya_token, ya_env, ya_tag, ya_cellEnv, ya_boundNext, ya_step, ya_boundNumber, ya_boundTag, ya_headTag, ya_tailTag, ya_number, ya_boundValue, ya_head, ya_tail, ya_written) (nI (24 * (6 + g) + t)) := by
  obtain ⟨l1, _, _, _, _, l6, _⟩ := hlib g hg hl
  obtain ⟨_, m3⟩ := hmy g hg hl
  obtain ⟨k1, k2, k3⟩ := m3 t ht
  obtain ⟨c1, c2, c3, c4, c5, c6⟩ := l1.2.2.2.2 t ht
  have n24 := l1.1
  by_cases z : kN g t = 4
  · obtain ⟨h, h1, h2, h3, h4⟩ := l6 t ht z
    exact y_operandsMade (h := h) hg (by omega) k1 c1 (fun _ => ⟨h1, by rw [k2, h2], by rw [h4]; exact (hmy h h1 h3).1⟩) c5 hp
  · exact y_operandsMade (h := 0) hg (by omega) k1 c1 (fun w => absurd w z) c5 hp
theorem bn0 {k j : Nat} (h15 : k ≠ 15) (hj : j = 0 ∨ k ≠ 10 ∧ k ≠ 14 ∨ k = 10 ∧ j = 1) : bn k j = 0 := by
  unfold bn
  rw [if_neg (by omega), if_neg (by omega)]
/-- a frame at an operand that binds nothing -/
theorem fr_child {nc nb d g t j : Nat} {ty : Nat → mt_T} {cm : Nat → Nat} {bnA bx bt bv bw : Nat → Int32} {e : Int32} {rho : Nat → mt_T} (hlib : lib ln P kN vl oc sp bd bi cod) (h : fr_ok ln P kN vl oc sp bd bi cod nc ty cm nb bnA bx bt bv bw d g t e rho) (hj : j < oc g t) (hb : bn (kN g t) j = 0) :
    fr_ok ln P kN vl oc sp bd bi cod nc ty cm nb bnA bx bt bv bw d g (jp (sp g) t j) e rho ∧ bd g (jp (sp g) t j) = bd g t := by
  obtain ⟨a1, a2, a3, a4, a5, a6⟩ := h
  obtain ⟨⟨n24, bw', _, tr, hbt⟩, _⟩ := hlib g a1 a2
  have hbi : ∀ t, t < ln g → bi g t ≤ t := fun t ht => (hbt t ht).2.2.2.1
  have hbd : bd g (jp (sp g) t j) = bd g t := by rw [(tr.2 t a3 j hj).1, hb]; rfl
  refine ⟨⟨a1, a2, (bw_in bw' a3 hj).2.2, a4, a5, ?_⟩, hbd⟩
  rw [hbd]
  refine ev_ext a6 (Nat.le_refl _) (fun _ _ => ⟨rfl, rfl⟩) (Nat.le_refl _) (fun _ _ => ⟨rfl, rfl, rfl, rfl⟩) (fun _ _ => rfl) (fun k hk => ?_)
  rw [wv_child tr hbi a3 hj k, if_neg (fun z => z.1 hb)]
section bud
variable {G : Nat → Nat → Nat} {g t : Nat} {n : Nat} {o : Nat → Nat} (hbw : bw_is n o (sp g)) (ht : t < n)
theorem b_down (hbw : bw_is n o (sp g)) (ht : t < n) (h0 : 0 < o t) : fG sp G g t 0 + pA sp G g (jp (sp g) t 0) ≤ pA sp G g t := by
  obtain ⟨a1, a2, a3⟩ := bw_in hbw ht h0
  have e0 : jp (sp g) t 0 = t + 1 := rfl
  have e1 : jp (sp g) t 1 = jp (sp g) t 0 + sp g (jp (sp g) t 0) := rfl
  have m1 := sm_mono (g := G g) (a := t + 1) (jp (sp g) t 1) (by omega)
  have m2 := sm_mono (g := G g) (a := jp (sp g) t 1) (t + sp g t) (by omega)
  have e2 : sm (G g) (t + 1) = sm (G g) t + G g t := rfl
  unfold fG pA
  rw [show 0 + 1 = 1 from rfl, ← e1, e0]
  omega
theorem b_next {s : Nat} (hbw : bw_is n o (sp g)) (ht : t < n) (h0 : s + 1 < o t) : fG sp G g t (s + 1) + pA sp G g (jp (sp g) t (s + 1)) ≤ fG sp G g t s := by
  obtain ⟨a1, a2, a3⟩ := bw_in hbw ht h0
  have e1 : jp (sp g) t (s + 1 + 1) = jp (sp g) t (s + 1) + sp g (jp (sp g) t (s + 1)) := rfl
  have m1 := sm_mono (g := G g) (a := jp (sp g) t (s + 1)) (jp (sp g) t (s + 1 + 1)) (by omega)
  have m2 := sm_mono (g := G g) (a := jp (sp g) t (s + 1 + 1)) (t + sp g t) (by omega)
  unfold fG pA
  rw [← e1]
  omega
theorem b_in {j : Nat} (hbw : bw_is n o (sp g)) (ht : t < n) (h1 : 1 ≤ j) (h0 : j < o t) : pA sp G g (jp (sp g) t j) + G g t ≤ fG sp G g t 0 := by
  obtain ⟨a1, a2, a3⟩ := bw_in hbw ht h0
  have hm : jp (sp g) t 1 ≤ jp (sp g) t j := by
    by_cases z : j = 1
    · rw [z]; exact Nat.le_refl _
    · exact Nat.le_of_lt (jp_mono hbw ht j (by omega) 1 (by omega))
  have m1 := sm_mono (g := G g) (a := jp (sp g) t 1) (jp (sp g) t j) hm
  have m2 := sm_mono (g := G g) (a := jp (sp g) t j) (jp (sp g) t j + sp g (jp (sp g) t j)) (by omega)
  have m3 := sm_mono (g := G g) (a := jp (sp g) t j + sp g (jp (sp g) t j)) (t + sp g t) (by omega)
  unfold fG pA
  rw [show 0 + 1 = 1 from rfl]
  omega
theorem t_down (hbw : bw_is n o (sp g)) (ht : t < n) (h0 : 0 < o t) : fT sp g t 0 + 2 * sp g (jp (sp g) t 0) ≤ 2 * sp g t - 1 := by
  obtain ⟨a1, a2, a3⟩ := bw_in hbw ht h0
  have e0 : jp (sp g) t 0 = t + 1 := rfl
  have e1 : jp (sp g) t 1 = jp (sp g) t 0 + sp g (jp (sp g) t 0) := rfl
  unfold fT
  rw [show 0 + 1 = 1 from rfl]
  omega
theorem t_next {s : Nat} (hbw : bw_is n o (sp g)) (ht : t < n) (h0 : s + 1 < o t) : fT sp g t (s + 1) + 2 * sp g (jp (sp g) t (s + 1)) ≤ fT sp g t s := by
  obtain ⟨a1, a2, a3⟩ := bw_in hbw ht h0
  have e1 : jp (sp g) t (s + 1 + 1) = jp (sp g) t (s + 1) + sp g (jp (sp g) t (s + 1)) := rfl
  unfold fT
  omega
theorem t_in {j : Nat} (hbw : bw_is n o (sp g)) (ht : t < n) (h1 : 1 ≤ j) (h0 : j < o t) : 2 * sp g (jp (sp g) t j) < fT sp g t 0 := by
  obtain ⟨a1, a2, a3⟩ := bw_in hbw ht h0
  have hm : jp (sp g) t 1 ≤ jp (sp g) t j := by
    by_cases z : j = 1
    · rw [z]; exact Nat.le_refl _
    · exact Nat.le_of_lt (jp_mono hbw ht j (by omega) 1 (by omega))
  unfold fT
  rw [show 0 + 1 = 1 from rfl]
  omega
end bud
theorem nm_o {k o : Nat} (h10 : k ≠ 10) (h11 : k ≠ 11) (h14 : k ≠ 14) : nm k o = o := by unfold nm; rw [if_neg (by omega)]
theorem ar_2 : ∀ k : Fin 17, k.val ≠ 10 → k.val ≠ 11 → ar k.val ≤ 2 := by decide
theorem tok_oc (hlib : lib ln P kN vl oc sp bd bi cod) {g t : Nat} (hg : g < 5) (hl : ln g ≠ 0) (ht : t < ln g) : kN g t ≤ 16 ∧ oc g t ≤ 3 ∧ (kN g t ≠ 10 → kN g t ≠ 11 → oc g t ≤ 2) ∧ (kN g t ≠ 4 → oc g t = ar (kN g t)) := by
  obtain ⟨l1, _, _, _, _, l6⟩ := lib1 hlib hg hl
  obtain ⟨b1, b2, _, _, b5, _⟩ := l1.2.2.2.2 t ht
  refine ⟨b1, b2, fun h10 h11 => ?_, b5⟩
  by_cases z : kN g t = 4
  · obtain ⟨h', q1, q2, q3, q4⟩ := l6 t ht z
    rw [q4]; exact (lib1 hlib q1 q3).2.2.1
  · rw [b5 z]; exact ar_2 ⟨kN g t, Nat.lt_succ_of_le b1⟩ h10 h11
theorem short_tok {g t : Nat} (hg : g < 5) (ht : t < 24) : vp_nar .short ((nI (24 * (6 + g) + t)).toInt16.toInt32) = nI (24 * (6 + g) + t) := nr_s (by omega)
theorem fr_s {nc nb d g t : Nat} {ty : Nat → mt_T} {cm : Nat → Nat} {bnA bx bt bv bw : Nat → Int32} {e : Int32} {rho : Nat → mt_T} (h : fr_ok ln P kN vl oc sp bd bi cod nc ty cm nb bnA bx bt bv bw d g t e rho) (hb : nb ≤ 4000) : vp_nar .short e.toInt16.toInt32 = e := ev_s h.2.2.2.2.2 hb
theorem nb_le {nb ns c : Nat} (h : nb + c ≤ 15 * (ns + 1) + 2 * ns) (hs : ns ≤ 200) : nb ≤ 3415 := by omega
theorem ar_down {F W S S0 m n2 : Nat} (td : F + 2 * S0 ≤ 2 * S - 1) (w4 : 1 ≤ S0) (d5 : W + 2 * S - 1 + n2 ≤ m + 1) : F + W + 2 * S0 - 1 + n2 ≤ m := by omega
theorem ar_next {F F' W S0 m n2 : Nat} (td : F' + 2 * S0 ≤ F) (w4 : 1 ≤ S0) (d5 : F + W + n2 ≤ m + 1) : F' + W + 2 * S0 - 1 + n2 ≤ m := by omega
theorem ar_in {F W S0 m n2 : Nat} (td : 2 * S0 < F) (d5 : F + W + n2 ≤ m + 1) : W + 2 * S0 - 1 + n2 ≤ m := by omega
theorem ar_leaf {W S m n2 : Nat} (w4 : 1 ≤ S) (d5 : W + 2 * S - 1 + n2 ≤ m + 1) : W + n2 ≤ m := by omega
theorem ar_fin {F W m n2 : Nat} (w4 : 1 ≤ F) (d5 : F + W + n2 ≤ m + 1) : W + n2 ≤ m := by omega
/-- a token with operands: its first operand is begun -/
theorem st_down {T0 : mt_T} {px : Int32 → SX → Prop} {B : (Int32 → SY → Prop) → Prop} {mu : Nat} {nh nw nd nx nk nl ns nt nb nc : Nat} {rsl rsr rwd rbw rcf rcs rct rcw rtk ren rtg rce rbx rst rbn rbt rht rtt rnu rbv rhd rtl : Nat → Int32} {g t : Nat} {e : Int32} {rho : Nat → mt_T} {st : List FE} {ws : List FV} {ty : Nat → mt_T} {cm lc : Nat → Nat} (hlib : lib ln P kN vl oc sp bd bi cod) (hmx : mx_ok ln P kN vl sp bd a_kinds a_values a_spans a_bounds a_lengths a_parameterCounts) (hmy : my_ok ln P kN vl oc sp ya_kind ya_value ya_below ya_parameters)
    (hk : kk ln P kN vl oc sp bd bi cod T0 px B mu f_saidPlace f_instanceCount f_nodeCount f_equationCount f_stackCount f_wordCount f_depth f_cellCount f_consCount f_closureCount f_stepCount f_runAnswer f_writtenCount a_kinds a_values a_spans a_bounds a_binders a_lengths a_parameterCounts a_typeCodes a_typeLengths a_instanceFunctions a_nodeKinds a_nodeLefts a_nodeRights a_nodeSizes a_equationLefts a_equationRights a_stackLefts a_stackRights a_words a_boundWords a_cellFirsts a_cellSeconds a_closureTokens a_closureWords a_written yf_place yf_points yf_names yf_textEnd yf_made yf_entry yf_waiting yf_values yf_bound yf_cells yf_conses yf_lams yf_steps yf_atWork yf_end yf_writtenCount ya_kind ya_up ya_turn ya_depth ya_value ya_below ya_length ya_parameters ya_codes ya_codeCount ya_form ya_colour ya_same ya_one ya_two ya_todo ya_numbered ya_text ya_ofFunction ya_codeEnd ya_instance ya_token ya_env ya_tag ya_cellEnv ya_boundNext ya_step ya_boundNumber ya_boundTag ya_headTag ya_tailTag ya_number ya_boundValue ya_head ya_tail ya_written) (h : ra_ok ln P kN vl oc sp bd bi cod T0 (mu + 1) nh nw nd nx nk nl ns nt nb nc rsl rsr rwd rbw rcf rcs rct rcw rtk ren rtg rce rbx rst rbn rbt rht rtt rnu rbv rhd rtl g t e rho st ws ty cm lc) (hY : ∀ Q, (∃ n, wY_run_75 Q n yf_place yf_points yf_names yf_textEnd yf_made yf_entry (nI nt) (nI nw) (nI nb) (nI nc) (nI nk) (nI nl) (nI ns) (nI nd) 0 yf_writtenCount ya_kind ya_up ya_turn ya_depth ya_value ya_below ya_length ya_parameters ya_codes ya_codeCount ya_form ya_colour ya_same ya_one ya_two ya_todo ya_numbered ya_text ya_ofFunction ya_codeEnd ya_instance rtk ren rtg rce rbx rst rbn rbt rht rtt rnu rbv rhd rtl ya_written) → B Q) (h15 : kN g t ≠ 15) (h0 : 0 < oc g t) : wpX_begin px (f_saidPlace, f_instanceCount, f_nodeCount, f_equationCount, (nI nh), (nI nw), (nI nd), (nI nx), (nI nk), (nI nl), (nI ns), 0, f_writtenCount, a_kinds, a_values, a_spans, a_bounds, a_binders, a_lengths, a_parameterCounts, a_typeCodes, a_typeLengths, a_instanceFunctions, a_nodeKinds, a_nodeLefts, a_nodeRights, a_nodeSizes, a_equationLefts, a_equationRights, rsl, rsr, rwd, rbw, rcf, rcs, rct, rcw, a_written) (nI ((5 + g) * 24 + t)) := by
  obtain ⟨⟨c1, c2, c3, c4, c5, c6, c7, c8, c9, c10, c11, c12, c13⟩, hfr, hko, hs1, hs2, d1, d2, d3, d4, d5⟩ := h
  obtain ⟨a1, a2, a3, a4, a5, a6⟩ := hfr
  have hfr : fr_ok ln P kN vl oc sp bd bi cod nc ty cm nb rbn rbx rbt rbv rbw nd g t e rho := ⟨a1, a2, a3, a4, a5, a6⟩
  obtain ⟨l1, l2, l3, l4, l5, l6⟩ := lib1 hlib a1 a2
  obtain ⟨n24, hbw, _, tr, hbt⟩ := l1
  obtain ⟨b1, b2, b3, b4, b5, b6⟩ := hbt t a3
  obtain ⟨m1, m2, m3⟩ := hmx g a1 a2
  obtain ⟨k1, k2, k3, k4, k5⟩ := m3 t a3
  obtain ⟨_, y2⟩ := hmy g a1 a2
  obtain ⟨z1, z2, z3⟩ := y2 t a3
  obtain ⟨w1, w2, w3⟩ := bw_in hbw a3 h0
  have hb0 : bn (kN g t) 0 = 0 := bn0 h15 (Or.inl rfl)
  obtain ⟨hfc, hbc⟩ := fr_child hlib hfr h0 hb0
  have hnm : 0 < nm (kN g t) (oc g t) := by unfold nm; split <;> omega
  have hnb : nb ≤ 3415 := by omega
  subst d1
  have cx : (nI ((5 + g) * 24 + t)).toNatClampNeg = (5 + g) * 24 + t := nI_clamp (by omega)
  have cw : (nI nh).toNatClampNeg = nh := nI_clamp (by omega)
  have hes := fr_s hfr (by omega)
  have hnh : nh < 525 := by omega
  -- Y
  have hY' : ∀ Q, (∃ n, wY_run_75 Q n yf_place yf_points yf_names yf_textEnd yf_made yf_entry (nI (nh + 1 + 1)) (nI nw) (nI nb) (nI nc) (nI nk) (nI nl) (nI ns) (nI nd) 0 yf_writtenCount ya_kind ya_up ya_turn ya_depth ya_value ya_below ya_length ya_parameters ya_codes ya_codeCount ya_form ya_colour ya_same ya_one ya_two ya_todo ya_numbered ya_text ya_ofFunction ya_codeEnd ya_instance (upd rtk (nh + 1) (nI (24 * (6 + g) + jp (sp g) t 0))) (upd ren (nh + 1) e) rtg rce rbx (upd (upd rst nh (nI 1)) (nh + 1) 0) rbn rbt rht rtt rnu rbv rhd rtl ya_written) → B Q := by
    rintro Q ⟨n, hn⟩
    refine hY Q ⟨n + 1, ?_⟩
    refine br_f (nI_nle (by omega) (by omega)) (br_t rfl (nm_r (nI_pred nh) (And.intro (pk_in nh 1200 (by omega)) (nm_r (e' := nI (24 * (6 + g) + t)) (by rw [cw, d2]) ?_))))
    refine br_t (nI_le (a := 0) (by omega) (by omega)) (And.intro (pk_in nh 1200 (by omega)) (nm_r (e' := e) (by rw [cw, d3]) ?_))
    refine y_ocm hlib hmy a1 a2 a3 (And.intro (pk_in nh 1200 (by omega)) ?_)
    rw [if_neg h15, cw, d4]
    refine br_f (nI_nle hnm (by unfold nm; split <;> omega)) (And.intro (pk_in nh 1200 (by omega)) (And.intro (pk_in nh 1200 (by omega)) (nm_r (e' := upd rst nh (nI 1)) (by exact congrArg _ (nr_b (n := 1) (by omega))) ?_)))
    refine y_child (j := 0) a1 (by omega) (by omega) (z3 0 h0) ?_
    exact y_later (by omega) (short_tok a1 (by omega)) hes hn
  -- X
  refine And.intro (pk_in ((5 + g) * 24 + t) 264 (by omega)) ?_
  rw [cx, k1]
  refine br_f (fun w => h15 ((nI_eq (b := 15) (by omega) (by omega)).mp w)) (x_ocm hlib hmx a1 a2 a3 (br_f (nI_nle h0 (by omega)) (x_push hnh ?_)))
  rw [nI_1]
  refine hk.1 (nh + 1) nw nd nx nk nl ns (nh + 1 + 1) nb nc (upd rsl nh (nI ((5 + g) * 24 + t))) (upd rsr nh 0) rwd rbw rcf rcs rct rcw (upd rtk (nh + 1) (nI (24 * (6 + g) + jp (sp g) t 0))) (upd ren (nh + 1) e) rtg rce rbx (upd (upd rst nh (nI 1)) (nh + 1) 0) rbn rbt rht rtt rnu rbv rhd rtl g (jp (sp g) t 0) e rho (some (g, t, 0, e, rho) :: st) ws ty cm lc ?_ hY'
  have bd1 := b_down (G := G1 kN) hbw a3 h0
  have bd2 := b_down (G := G2 kN) hbw a3 h0
  have td := t_down hbw a3 h0
  have w4 := (hbw.2.2 _ w3).1
  have e0 : jp (sp g) t 0 = t + 1 := rfl
  refine ⟨⟨by rw [c1, List.length_cons], c2, c3, c4, c5, c6, c7, c8, ⟨by rw [← c1, pk_us], by rw [← c1, pk_us]; rfl, ?_, ?_, ?_, sx_ext st (fun j hj => ⟨pk_un (by omega), pk_un (by omega), pk_un (by omega), pk_un (by omega), ?_⟩) c9⟩, c10, c11, ?_, ?_⟩, hfc, ⟨hfr, hnm, h15, rfl, by omega, ws, Or.inl ⟨rfl, rfl⟩, hs1, hs2, hko⟩, ?_, ?_, rfl, pk_us, pk_us, pk_us, ?_⟩
  · rw [← c1, pk_un (by omega)]; exact d2
  · rw [← c1, pk_un (by omega)]; exact d3
  · rw [← c1, pk_un (by omega), pk_us]
  · rw [pk_un (by omega), pk_un (by omega)]
  · show nx + (fG sp (G1 kN) g t 0 + wt (fG sp (G1 kN)) 0 st) + _ ≤ _
    omega
  · show nb + (fG sp (G2 kN) g t 0 + wt (fG sp (G2 kN)) 0 st) + _ ≤ _
    omega
  · simp only [List.length_cons]; omega
  · omega
  · exact ar_down td w4 d5

variable {f_saidPlace f_instanceCount f_nodeCount f_equationCount f_stackCount f_wordCount f_depth f_cellCount f_consCount f_closureCount f_stepCount f_runAnswer f_writtenCount : Int32} {a_kinds a_values a_spans a_bounds a_binders a_lengths a_parameterCounts a_typeCodes a_typeLengths a_instanceFunctions a_nodeKinds a_nodeLefts a_nodeRights a_nodeSizes a_equationLefts a_equationRights a_stackLefts a_stackRights a_words a_boundWords a_cellFirsts a_cellSeconds a_closureTokens a_closureWords a_written : Nat → Int32}
variable {yf_place yf_points yf_names yf_textEnd yf_made yf_entry yf_waiting yf_values yf_bound yf_cells yf_conses yf_lams yf_steps yf_atWork yf_end yf_writtenCount : Int32} {ya_kind ya_up ya_turn ya_depth ya_value ya_below ya_length ya_parameters ya_codes ya_codeCount ya_form ya_colour ya_same ya_one ya_two ya_todo ya_numbered ya_text ya_ofFunction ya_codeEnd ya_instance ya_token ya_env ya_tag ya_cellEnv ya_boundNext ya_step ya_boundNumber ya_boundTag ya_headTag ya_tailTag ya_number ya_boundValue ya_head ya_tail ya_written : Nat → Int32}
section mk
variable {ln P : Nat → Nat} {kN : Nat → Nat → Nat} {vl : Nat → Nat → Int32} {oc sp bd bi : Nat → Nat → Nat} {cod : Nat → List Nat}
theorem in_first (hlib : lib ln P kN vl oc sp bd bi cod) {f : Nat} (hf : f < 5) (hl : ln f ≠ 0) : in_ok ln P cod (f, cl_0 (cod f)) := by
  obtain ⟨_, _, _, _, _, _, ⟨ts, t1, t2, t3⟩, l8, l9, _⟩ := hlib f hf hl
  refine ⟨hf, hl, by rw [cl_len]; exact l8, fun k hk => cl_60 _ k (by rw [← cl_len]; exact hk), ts.map (mt_sub (fun _ => .leaf 0)), fun t ht => ?_, by rw [cl_encs ts t1, t2], by rw [List.length_map, t3], ⟨ts, t1, t2, fun _ => .leaf 0, fun _ => mt_wf0, rfl⟩⟩
  obtain ⟨z, hz, rfl⟩ := List.mem_map.mp ht
  exact mt_sub_wf (fun _ => mt_wf0) _ (t1 z hz)
theorem mk_ext : ∀ k i I I', mk_is ln P kN vl oc sp bd bi cod k i I (some I') → ∃ J, I' = I ++ J := by
  intro k
  induction k with
  | zero => intro i I I' h; exact h.elim
  | succ k ih =>
    intro i I I' h
    rcases h with ⟨_, e⟩ | ⟨_, _, _, _, _, _, _, ⟨_, e⟩ | ⟨_, ⟨_, e⟩ | ⟨I1, e1, h1⟩⟩⟩
    · injection e with e; exact ⟨[], by rw [e, List.append_nil]⟩
    · cases e
    · cases e
    · obtain ⟨J, j1⟩ := ih (i + 1) I1 I' h1
      obtain ⟨J', j2, _⟩ := fld_ext (p := fun _ => True) _ 0 I I1 (fun _ _ _ _ => trivial) e1
      exact ⟨J' ++ J, by rw [j1, j2, List.append_assoc]⟩
theorem lib_T0 (hlib : lib ln P kN vl oc sp bd bi cod) {f : Nat} (hf : f < 5) (hl : ln f ≠ 0) (hP0 : P f = 0) : ∃ T0, mt_wf T0 ∧ cl_0 (cod f) = mt_enc T0 ∧ sc_inst (cod f) [T0] ∧ (mt_enc T0).length ≤ 14 := by
  obtain ⟨_, _, _, _, _, _, ⟨ts, t1, t2, t3⟩, l8, l9, _⟩ := hlib f hf hl
  rw [hP0] at t3 l8
  obtain ⟨T, rfl⟩ : ∃ T, ts = [T] := List.length_eq_one_iff.mp t3
  have hT := t1 T (by simp)
  have e : mt_enc (mt_sub (fun _ => .leaf 0) T) = cl_0 (cod f) := by
    have := cl_encs [T] t1
    rw [t2] at this
    simpa [mt_encs] using this
  exact ⟨mt_sub (fun _ => .leaf 0) T, mt_sub_wf (fun _ => mt_wf0) _ hT, e.symm, ⟨[T], t1, t2, fun _ => .leaf 0, fun _ => mt_wf0, rfl⟩, by rw [e, cl_len]; omega⟩
theorem lx_arr {ki va spa bou bin len pc tc tl ki' va' spa' bou' len' pc' : Nat → Int32} (h : lx_ok ln P kN vl sp bd bi cod ki va spa bou bin len pc tc tl) (h1 : ∀ j, j < 120 → ki' j = ki j ∧ va' j = va j ∧ spa' j = spa j ∧ bou' j = bou j) (h2 : ∀ j, j < 5 → len' j = len j ∧ pc' j = pc j) : lx_ok ln P kN vl sp bd bi cod ki' va' spa' bou' bin len' pc' tc tl := by
  intro g hg
  obtain ⟨a, b, c⟩ := h g hg
  rw [(h2 g hg).1, (h2 g hg).2]
  refine ⟨a, b, fun hl => ?_⟩
  obtain ⟨d, e, r⟩ := c hl
  refine ⟨d, fun t ht => ?_, r⟩
  obtain ⟨q1, q2, q3, q4⟩ := h1 (g * 24 + t) (by omega)
  rw [q1, q2, q3, q4]; exact e t ht
theorem ly_arr {ki va up tu de be len par co cn ki' va' up' tu' de' be' len' par' : Nat → Int32} (hlib : lib ln P kN vl oc sp bd bi cod) (h : ly_ok ln P kN vl oc sp bd cod ki va up tu de be len par co cn) (h1 : ∀ j, j < 120 → ki' j = ki j ∧ va' j = va j ∧ up' j = up j ∧ tu' j = tu j ∧ de' j = de j) (h2 : ∀ j, j < 360 → be' j = be j) (h3 : ∀ j, j < 5 → len' j = len j ∧ par' j = par j) :
    ly_ok ln P kN vl oc sp bd cod ki' va' up' tu' de' be' len' par' co cn := by
  intro g hg
  obtain ⟨a, c⟩ := h g hg
  rw [(h3 g hg).1, (h3 g hg).2]
  refine ⟨a, fun hl => ?_⟩
  obtain ⟨d, e, r⟩ := c hl
  have hb := (hlib g hg hl).1
  exact ⟨d, yb_congr hb.1 (fun t ht => (hb.2.2.2.2 t ht).2.1) e (fun j j1 j2 => h1 j (by omega)) (fun j j1 j2 => h2 j (by omega)), r⟩
end mk
theorem mk_rel {f : Nat} (hf : f < 5) (hR : rel f_saidPlace f_instanceCount f_nodeCount f_equationCount f_stackCount f_wordCount f_depth f_cellCount f_consCount f_closureCount f_stepCount f_runAnswer f_writtenCount a_kinds a_values a_spans a_bounds a_binders a_lengths a_parameterCounts a_typeCodes a_typeLengths a_instanceFunctions a_nodeKinds a_nodeLefts a_nodeRights a_nodeSizes a_equationLefts a_equationRights a_stackLefts a_stackRights a_words a_boundWords a_cellFirsts a_cellSeconds a_closureTokens a_closureWords a_written yf_place yf_points yf_names yf_textEnd yf_made yf_entry yf_waiting yf_values yf_bound yf_cells yf_conses yf_lams yf_steps yf_atWork yf_end yf_writtenCount ya_kind ya_up ya_turn ya_depth ya_value ya_below ya_length ya_parameters ya_codes ya_codeCount ya_form ya_colour ya_same ya_one ya_two ya_todo ya_numbered ya_text ya_ofFunction ya_codeEnd ya_instance ya_token ya_env ya_tag ya_cellEnv ya_boundNext ya_step ya_boundNumber ya_boundTag ya_headTag ya_tailTag ya_number ya_boundValue ya_head ya_tail ya_written) : wpX_make (fun r u => wpY_make (fun r' v => r' = r ∧ rl u v) (yf_place, yf_points, yf_names, yf_textEnd, yf_made, yf_entry, yf_waiting, yf_values, yf_bound, yf_cells, yf_conses, yf_lams, yf_steps, yf_atWork, yf_end, yf_writtenCount, ya_kind, ya_up, ya_turn, ya_depth, ya_value, ya_below, ya_length, ya_parameters, ya_codes, ya_codeCount, ya_form, ya_colour, ya_same, ya_one, ya_two, ya_todo, ya_numbered, ya_text, ya_ofFunction, ya_codeEnd, ya_instance, ya_token, ya_env, ya_tag, ya_cellEnv, ya_boundNext, ya_step, ya_boundNumber, ya_boundTag, ya_headTag, ya_tailTag, ya_number, ya_boundValue, ya_head, ya_tail, ya_written) (nI f)) (f_saidPlace, f_instanceCount, f_nodeCount, f_equationCount, f_stackCount, f_wordCount, f_depth, f_cellCount, f_consCount, f_closureCount, f_stepCount, f_runAnswer, f_writtenCount, a_kinds, a_values, a_spans, a_bounds, a_binders, a_lengths, a_parameterCounts, a_typeCodes, a_typeLengths, a_instanceFunctions, a_nodeKinds, a_nodeLefts, a_nodeRights, a_nodeSizes, a_equationLefts, a_equationRights, a_stackLefts, a_stackRights, a_words, a_boundWords, a_cellFirsts, a_cellSeconds, a_closureTokens, a_closureWords, a_written) (nI f) := by
  have hR' := hR
  obtain ⟨hpl, ⟨ln, P, kN, vl, oc, sp, bd, bi, cod, hlib, hlx, hly⟩, ⟨n, dk, dv, hd1, hd2, hxt, hyt⟩, hm, hr⟩ := hR
  have h24 : ∀ g, g < 5 → ln g ≤ 24 := fun g hg => (hlx g hg).2.1
  have cf : (nI f).toNatClampNeg = f := nI_clamp (by omega)
  obtain ⟨x1, x2, x3⟩ := hlx f hf
  obtain ⟨y1, y2⟩ := hly f hf
  by_cases hl : ln f = 0
  · refine br_f (lt0_n (by omega)) (br_f (nI_ge (b := 5) (by omega) (by omega)) (And.intro (pk_in f 11 (by omega)) ?_))
    rw [cf, x1, hl]
    refine br_t rfl ?_
    unfold wpY_make
    refine y_out (fun z => br_f n1_0 ⟨rfl, hR'⟩) (fun _ _ => br_t rfl (And.intro (pk_in f 11 (by omega)) ?_))
    rw [cf, y1, hl]
    exact br_t rfl ⟨rfl, hR'⟩
  · obtain ⟨x4, x5, x6⟩ := x3 hl
    obtain ⟨y3, y4, y5, y6⟩ := y2 hl
    have hp2 := (hlib f hf hl).2.2.1
    by_cases hP0 : P f = 0
    · have hin := in_first hlib hf hl
      refine x_make hf hl hP0 hlib hlx hin (fun I' nc ec sc ifn tc tl K nl nr sz el er sl sr ki va spa bou len pc q1 q2 q3 q4 w1 w2 w3 => ?_) (fun nc ec sc ifn tc tl K nl nr sz el er sl sr q1 q4 => ?_)
      · refine y_make (RS := some I') hf hl hP0 hlib h24 hly hin q1 (fun I2 e2 pt nm te fo sa on tw co td nu tx yof yce yin yki yva yup ytu yde ybe ylen ypar z1 z2 z3 z4 => ?_) (fun e => nomatch e)
        injection e2 with e2
        subst e2
        obtain ⟨J, eJ⟩ := mk_ext _ _ _ _ q1
        have e0 : I'.getD 0 (0, []) = (f, cl_0 (cod f)) := by rw [eJ]; rfl
        have hlen : 0 < I'.length := by rw [eJ]; simp
        obtain ⟨c1, c2, c3, c4⟩ := z4
        refine ⟨rfl, hpl, ⟨ln, P, kN, vl, oc, sp, bd, bi, cod, hlib, lx_arr (lx_row hlx q4) (fun j hj => w1.2 j (by omega)) (fun j hj => w3 j (by omega)), ly_arr hlib hly (fun j hj => c2 j (by omega)) (fun j hj => c3 j (by omega)) (fun j hj => c4 j (by omega))⟩, ⟨n, dk, dv, ?_, ?_, ⟨hxt.1, fun t ht => ?_⟩, ⟨hyt.1, fun t ht => ?_⟩⟩, ⟨I'.length, fun i => (I'.getD i (0, [])).1, fun i => (I'.getD i (0, [])).2, q3, rfl, rfl, fun i hi => ?_, Or.inr ⟨hlen, ?_, ln, P, kN, vl, oc, sp, bd, bi, cod, hlib, ?_, ?_, fun g hg hlg => ?_, fun g hg hlg => c1 g hg hlg, ?_⟩⟩, hr⟩
        · rw [(w3 10 (by omega)).1]; exact hd1
        · rw [(c4 5 (by omega)).1]; exact hd2
        · have n24 := hxt.1
          obtain ⟨b1, b2, _, _⟩ := w1.2 (10 * 24 + t) (by omega)
          rw [b1, b2]; exact hxt.2 t ht
        · have n24 := hyt.1
          obtain ⟨b1, b2, _⟩ := c2 (120 + t) (by omega)
          rw [b1, b2]; exact hyt.2 t ht
        · obtain ⟨a1, a2, a3⟩ := q2 i hi
          obtain ⟨b1, b2, b3, b4, b5⟩ := z1 i hi
          exact ⟨a1, a2, a3, b2, b3, fun k hk => (b5 k hk).1⟩
        · dsimp only; rw [e0]
        · dsimp only; rw [e0]; exact hl
        · dsimp only; rw [e0]; exact hP0
        · obtain ⟨g1, g2, g3⟩ := hlx g hg
          obtain ⟨g4, g5, _⟩ := g3 hlg
          rw [(w2 g hg).1, (w2 g hg).2]
          refine ⟨g1, g4, fun t ht => ?_⟩
          obtain ⟨u1, u2, u3, u4, u5⟩ := w1.1 g t hg ht
          obtain ⟨v1, v2, v3, v4, v5⟩ := g5 t ht
          have hk := ((hlib g hg hlg).1.2.2.2.2 t ht).1
          rw [u1, u4, u5]
          refine ⟨v1, fun k4 h hh hv => ?_, fun k4 => ?_, v3, v4⟩
          · rw [u2 (by rw [v1, k4]; rfl), v2, hv]; exact nI_add 5 h
          · rw [u3 (fun w => k4 ((nI_eq (b := 4) (by omega) (by omega)).mp (v1.symm.trans w)))]; exact v2
        · dsimp only; rw [e0]
          exact lib_T0 hlib hf hl hP0
      · refine y_make (RS := none) hf hl hP0 hlib h24 hly hin q1 (fun I2 e2 => nomatch e2) (fun _ pt nm te fo sa on tw co td nu tx yof yce yin => ?_)
        refine ⟨rfl, hpl, ⟨ln, P, kN, vl, oc, sp, bd, bi, cod, hlib, lx_row hlx q4, hly⟩, ⟨n, dk, dv, hd1, hd2, hxt, hyt⟩, ⟨0, fun _ => 0, fun _ => [], by omega, rfl, rfl, fun i hi => by omega, Or.inl ⟨rfl, rfl⟩⟩, hr⟩
    · refine br_f (lt0_n (by omega)) (br_f (nI_ge (b := 5) (by omega) (by omega)) (And.intro (pk_in f 11 (by omega)) ?_))
      rw [cf, x1]
      refine br_f (fun w => hl ((nI0 (by omega)).mp w)) (And.intro (pk_in f 11 (by omega)) ?_)
      rw [x4]
      refine br_f (fun w => hP0 ((nI0 (by omega)).mp w)) ?_
      unfold wpY_make
      refine y_out (fun z => br_f n1_0 ⟨rfl, hR'⟩) (fun _ _ => br_t rfl (And.intro (pk_in f 11 (by omega)) ?_))
      rw [cf, y1]
      refine br_f (fun w => hl ((nI0 (by have := h24 f hf; omega)).mp w)) (And.intro (pk_in f 11 (by omega)) ?_)
      rw [y3]
      exact br_f (nI_nle (by omega) (by omega)) ⟨rfl, hR'⟩

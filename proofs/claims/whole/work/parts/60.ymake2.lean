variable {yf_place yf_points yf_names yf_textEnd yf_made yf_entry yf_waiting yf_values yf_bound yf_cells yf_conses yf_lams yf_steps yf_atWork yf_end yf_writtenCount : Int32} {ya_kind ya_up ya_turn ya_depth ya_value ya_below ya_length ya_parameters ya_codes ya_codeCount ya_form ya_colour ya_same ya_one ya_two ya_todo ya_numbered ya_text ya_ofFunction ya_codeEnd ya_instance ya_token ya_env ya_tag ya_cellEnv ya_boundNext ya_step ya_boundNumber ya_boundTag ya_headTag ya_tailTag ya_number ya_boundValue ya_head ya_tail ya_written : Nat → Int32}
abbrev JZ := Int32 → Int32 → Int32 → Int32 → Int32 → Int32 → Int32 → Int32 → Int32 → Int32 → Int32 → Int32 → Int32 → Int32 → Int32 → Int32 → JY
/-- the types of a call are written -/
theorem y_gt200' {post : Int32 → SY → Prop} {J148 : JZ} {f t g N P : Nat} {sp : Nat → Nat} {K : Nat → Int32} {L R rt ds : Nat → Nat} {c : Nat → mt_T} {I : List (Nat × List Nat)} (hf : f < 5) (ht : t < 24) (hg5 : g < 5) (h74 : 74 ≤ N) (hN : N ≤ 900) (hP2 : P ≤ 2) (hpa : ya_parameters g = nI P)
    (hbe : ∀ j, j < P → ya_below (72 * f + 3 * t + j) = nI (jp sp t j) ∧ jp sp t j < 24) (hg : yw_ok N ya_form ya_same ya_one ya_two K L R rt ds c) (h14 : ∀ p, p ∈ ca_st (jp sp t) t P → (mt_enc (c p)).length ≤ 14) (hI : yI I ya_ofFunction ya_codeEnd ya_instance) (h12 : I.length ≤ 12)
    (h1 : ∀ I' te td tx yof yce yin, ins I (g, cl_0 (mt_encs ((ca_st (jp sp t) t P).map c))) = some I' → yI I' yof yce yin → I'.length ≤ 12 → J148 (nI t + 1) yf_place yf_points yf_names te (nI I'.length) yf_entry yf_waiting yf_values yf_bound yf_cells yf_conses yf_lams yf_steps yf_atWork yf_end yf_writtenCount ya_kind ya_up ya_turn ya_depth ya_value ya_below ya_length ya_parameters ya_codes ya_codeCount ya_form ya_colour ya_same ya_one ya_two td ya_numbered tx yof yce yin ya_token ya_env ya_tag ya_cellEnv ya_boundNext ya_step ya_boundNumber ya_boundTag ya_headTag ya_tailTag ya_number ya_boundValue ya_head ya_tail ya_written)
    (h0 : ∀ te ma td tx, ins I (g, cl_0 (mt_encs ((ca_st (jp sp t) t P).map c))) = none → post 0 (yf_place, yf_points, yf_names, te, ma, yf_entry, yf_waiting, yf_values, yf_bound, yf_cells, yf_conses, yf_lams, yf_steps, yf_atWork, yf_end, yf_writtenCount, ya_kind, ya_up, ya_turn, ya_depth, ya_value, ya_below, ya_length, ya_parameters, ya_codes, ya_codeCount, ya_form, ya_colour, ya_same, ya_one, ya_two, td, ya_numbered, tx, ya_ofFunction, ya_codeEnd, ya_instance, ya_token, ya_env, ya_tag, ya_cellEnv, ya_boundNext, ya_step, ya_boundNumber, ya_boundTag, ya_headTag, ya_tailTag, ya_number, ya_boundValue, ya_head, ya_tail, ya_written)) :
    ∀ q p fu td tx, p + q = P → q < fu → (∀ i, i < (mt_encs ((pa_st (jp sp t) p).map c)).length → tx i = nI ((cl_0 (mt_encs ((pa_st (jp sp t) p).map c))).getD i 0)) →
      wY_goThrough_200 post J148 (nI f) (nI t) (nI g) fu (nI p) yf_place yf_points yf_names (nI (mt_encs ((pa_st (jp sp t) p).map c)).length) (nI I.length) yf_entry yf_waiting yf_values yf_bound yf_cells yf_conses yf_lams yf_steps yf_atWork yf_end yf_writtenCount ya_kind ya_up ya_turn ya_depth ya_value ya_below ya_length ya_parameters ya_codes ya_codeCount ya_form ya_colour ya_same ya_one ya_two td ya_numbered tx ya_ofFunction ya_codeEnd ya_instance ya_token ya_env ya_tag ya_cellEnv ya_boundNext ya_step ya_boundNumber ya_boundTag ya_headTag ya_tailTag ya_number ya_boundValue ya_head ya_tail ya_written := by
  have hO : ∀ (cs : List Nat), ∀ k, k < (wr_f true [] cs).length → (wr_f true [] cs).getD k 0 < 100 := by
    intro cs k hk
    rw [wr_len] at hk
    have := cl_60 cs k hk
    show (cl_0 cs).getD k 0 < 100
    omega
  have hin : ∀ j, j < P → jp sp t j ∈ ca_st (jp sp t) t P := fun j hj => List.mem_append.mpr (Or.inl (List.mem_map.mpr ⟨j, List.mem_range.mpr hj, rfl⟩))
  have hint : t ∈ ca_st (jp sp t) t P := List.mem_append.mpr (Or.inr (by simp))
  intro q
  induction q with
  | zero =>
    intro p fu td tx hp hfu h2
    obtain ⟨fu, rfl⟩ : ∃ g, fu = g + 1 := ⟨fu - 1, by omega⟩
    have e : p = P := by omega
    subst e
    have hpl := pa_le (a := jp sp t) (c := c) (fun j hj => h14 _ (hin j hj)) p (Nat.le_refl _)
    have h14t := h14 t hint
    refine And.intro (pk_in g 11 (by omega)) ?_
    rw [nI_clamp (n := g) (by omega), hpa]
    refine br_t (nI_le (Nat.le_refl _) (by omega)) ?_
    refine y_write (cl := true) (p := t) (c := c) (vs0 := []) hN (by omega) (by omega) rfl (by simp) hg (fun z => nomatch z) (hO _) (fun nm td' nu' tx' q1 q2 q3 q4 q5 => ?_) (fun _ _ _ _ z => by omega)
    obtain ⟨e1, e2⟩ := q3 rfl
    subst e1 e2
    have ht' : ∀ i, i < (mt_encs ((ca_st (jp sp t) t p).map c)).length → tx' i = nI ((cl_0 (mt_encs ((ca_st (jp sp t) t p).map c))).getD i 0) := by rw [ca_enc]; exact tc_app h2 q4 q5
    have key := y_meet (ya_todo := td') (ya_text := tx') (post := (fun r_339 u => match u with | (yf_place, yf_points, yf_names, yf_textEnd, yf_made, yf_entry, yf_waiting, yf_values, yf_bound, yf_cells, yf_conses, yf_lams, yf_steps, yf_atWork, yf_end, yf_writtenCount, ya_kind, ya_up, ya_turn, ya_depth, ya_value, ya_below, ya_length, ya_parameters, ya_codes, ya_codeCount, ya_form, ya_colour, ya_same, ya_one, ya_two, ya_todo, ya_numbered, ya_text, ya_ofFunction, ya_codeEnd, ya_instance, ya_token, ya_env, ya_tag, ya_cellEnv, ya_boundNext, ya_step, ya_boundNumber, ya_boundTag, ya_headTag, ya_tailTag, ya_number, ya_boundValue, ya_head, ya_tail, ya_written) => (((r_339 = 0 → (post 0 (yf_place, yf_points, yf_names, yf_textEnd, yf_made, yf_entry, yf_waiting, yf_values, yf_bound, yf_cells, yf_conses, yf_lams, yf_steps, yf_atWork, yf_end, yf_writtenCount, ya_kind, ya_up, ya_turn, ya_depth, ya_value, ya_below, ya_length, ya_parameters, ya_codes, ya_codeCount, ya_form, ya_colour, ya_same, ya_one, ya_two, ya_todo, ya_numbered, ya_text, ya_ofFunction, ya_codeEnd, ya_instance, ya_token, ya_env, ya_tag, ya_cellEnv, ya_boundNext, ya_step, ya_boundNumber, ya_boundTag, ya_headTag, ya_tailTag, ya_number, ya_boundValue, ya_head, ya_tail, ya_written))) ∧ (¬ r_339 = 0 → (∀ x9_393, x9_393 = nI t + 1 → (J148 x9_393 yf_place yf_points yf_names yf_textEnd yf_made yf_entry yf_waiting yf_values yf_bound yf_cells yf_conses yf_lams yf_steps yf_atWork yf_end yf_writtenCount ya_kind ya_up ya_turn ya_depth ya_value ya_below ya_length ya_parameters ya_codes ya_codeCount ya_form ya_colour ya_same ya_one ya_two ya_todo ya_numbered ya_text ya_ofFunction ya_codeEnd ya_instance ya_token ya_env ya_tag ya_cellEnv ya_boundNext ya_step ya_boundNumber ya_boundTag ya_headTag ya_tailTag ya_number ya_boundValue ya_head ya_tail ya_written))))))) (I := I) (g := g) (Q := cl_0 (mt_encs ((ca_st (jp sp t) t p).map c))) hI h12 hg5 (by rw [cl_len, ca_enc, List.length_append]; omega) (fun k hk => by rw [cl_len] at hk; exact ⟨ht' k hk, cl_60 _ k hk⟩) (fun I' yof yce yin k1 k2 k3 => br_f n1_0 (nm_e (h1 I' _ td' tx' yof yce yin k1 k2 k3))) (fun k => br_t rfl (h0 _ _ td' tx' k))
    rw [cl_len, ca_enc, List.length_append] at key
    exact key
  | succ q ih =>
    intro p fu td tx hp hfu h2
    obtain ⟨fu, rfl⟩ : ∃ g, fu = g + 1 := ⟨fu - 1, by omega⟩
    have hpl := pa_le (a := jp sp t) (c := c) (P := P) (fun j hj => h14 _ (hin j hj)) p (by omega)
    obtain ⟨b1, b2⟩ := hbe p (by omega)
    have h14t := h14 _ (hin p (by omega))
    refine And.intro (pk_in g 11 (by omega)) ?_
    rw [nI_clamp (n := g) (by omega), hpa]
    refine br_f (nI_ge (by omega) (by omega)) (And.intro (pk_in (72 * f + 3 * t + p) 792 (by omega) (ix723 f t p)) ?_)
    rw [ix723, nI_clamp (n := 72 * f + 3 * t + p) (by omega), b1]
    refine y_write (cl := true) (p := jp sp t p) (c := c) (vs0 := []) hN (by omega) (by omega) rfl (by simp) hg (fun z => nomatch z) (hO _) (fun nm td' nu' tx' q1 q2 q3 q4 q5 => ?_) (fun _ _ _ _ z => by omega)
    obtain ⟨e1, e2⟩ := q3 rfl
    subst e1 e2
    refine nm_r (nI_1 p) ?_
    have := ih (p + 1) fu td' tx' (by omega) (by omega) (by rw [pa_enc]; exact tc_app h2 q4 q5)
    rw [pa_enc, List.length_append] at this
    exact this
theorem y_gt148 {post : Int32 → SY → Prop} {f n N : Nat} {kN vN : Nat → Nat} {oc sp : Nat → Nat} {K : Nat → Int32} {L R rt ds : Nat → Nat} {c : Nat → mt_T} {qx : Nat → List Nat} {RS : Option (List (Nat × List Nat))} (hf : f < 5) (hn : n ≤ 24) (hl : ya_length f = nI n) (h74 : 74 ≤ N) (hN : N ≤ 900)
    (hb : ∀ t, t < n → ya_kind (24 * f + t) = nI (kN t) ∧ kN t ≤ 16 ∧ (kN t = 4 → vN t < 5 ∧ ya_value (24 * f + t) = nI (vN t) ∧ oc t ≤ 2 ∧ ya_parameters (vN t) = nI (oc t) ∧ (∀ j, j < oc t → ya_below (72 * f + 3 * t + j) = nI (jp sp t j) ∧ jp sp t j < 24) ∧ qx t = cq oc sp c t))
    (hg : yw_ok N ya_form ya_same ya_one ya_two K L R rt ds c) (h14 : ∀ p, p < 24 → p < n → (mt_enc (c p)).length ≤ 14) (hbn : ∀ t j, t < n → kN t = 4 → j < oc t → jp sp t j < n)
    (h1 : ∀ I' te td tx yof yce yin, RS = some I' → yI I' yof yce yin → I'.length ≤ 12 → post 1 (yf_place, yf_points, yf_names, te, (nI I'.length), yf_entry, yf_waiting, yf_values, yf_bound, yf_cells, yf_conses, yf_lams, yf_steps, yf_atWork, yf_end, yf_writtenCount, ya_kind, ya_up, ya_turn, ya_depth, ya_value, ya_below, ya_length, ya_parameters, ya_codes, ya_codeCount, ya_form, ya_colour, ya_same, ya_one, ya_two, td, ya_numbered, tx, yof, yce, yin, ya_token, ya_env, ya_tag, ya_cellEnv, ya_boundNext, ya_step, ya_boundNumber, ya_boundTag, ya_headTag, ya_tailTag, ya_number, ya_boundValue, ya_head, ya_tail, ya_written))
    (h0 : ∀ te ma td tx yof yce yin, RS = none → post 0 (yf_place, yf_points, yf_names, te, ma, yf_entry, yf_waiting, yf_values, yf_bound, yf_cells, yf_conses, yf_lams, yf_steps, yf_atWork, yf_end, yf_writtenCount, ya_kind, ya_up, ya_turn, ya_depth, ya_value, ya_below, ya_length, ya_parameters, ya_codes, ya_codeCount, ya_form, ya_colour, ya_same, ya_one, ya_two, td, ya_numbered, tx, yof, yce, yin, ya_token, ya_env, ya_tag, ya_cellEnv, ya_boundNext, ya_step, ya_boundNumber, ya_boundTag, ya_headTag, ya_tailTag, ya_number, ya_boundValue, ya_head, ya_tail, ya_written)) :
    ∀ m t fu I te td tx yof yce yin, t + m = n → m < fu → yI I yof yce yin → I.length ≤ 12 → fld kN vN qx m t I = RS →
      wY_goThrough_148 post (nI f) fu (nI t) yf_place yf_points yf_names te (nI I.length) yf_entry yf_waiting yf_values yf_bound yf_cells yf_conses yf_lams yf_steps yf_atWork yf_end yf_writtenCount ya_kind ya_up ya_turn ya_depth ya_value ya_below ya_length ya_parameters ya_codes ya_codeCount ya_form ya_colour ya_same ya_one ya_two td ya_numbered tx yof yce yin ya_token ya_env ya_tag ya_cellEnv ya_boundNext ya_step ya_boundNumber ya_boundTag ya_headTag ya_tailTag ya_number ya_boundValue ya_head ya_tail ya_written := by
  intro m
  induction m with
  | zero =>
    intro t fu I te td tx yof yce yin ht hfu hI h12 hR
    obtain ⟨fu, rfl⟩ : ∃ g, fu = g + 1 := ⟨fu - 1, by omega⟩
    have e : t = n := by omega
    subst e
    refine And.intro (pk_in f 11 (by omega)) ?_
    rw [nI_clamp (n := f) (by omega), hl]
    exact br_t (nI_le (Nat.le_refl _) (by omega)) (h1 I te td tx yof yce yin hR.symm hI h12)
  | succ m ih =>
    intro t fu I te td tx yof yce yin ht hfu hI h12 hR
    obtain ⟨fu, rfl⟩ : ∃ g, fu = g + 1 := ⟨fu - 1, by omega⟩
    have htn : t < n := by omega
    obtain ⟨b1, b2, b3⟩ := hb t htn
    rw [fld] at hR
    have c24 : (nI (24 * f + t)).toNatClampNeg = 24 * f + t := nI_clamp (by omega)
    refine And.intro (pk_in f 11 (by omega)) ?_
    rw [nI_clamp (n := f) (by omega), hl]
    refine br_f (nI_ge (by omega) (by omega)) (And.intro (pk_in (24 * f + t) 264 (by omega) (ix24 f t)) ?_)
    rw [ix24, c24, b1]
    refine pk_eq (kN t) 4 (fun z => And.intro (pk_in (24 * f + t) 264 (by omega)) ?_) (fun z => nm_r (nI_1 t) (ih (t + 1) fu I te td tx yof yce yin (by omega) (by omega) hI h12 (by rw [if_neg z] at hR; exact hR)))
    rw [if_pos z] at hR
    obtain ⟨v1, v2, v3, v4, v5, v6⟩ := b3 z
    refine nm_r v2 (Exists.intro (oc t + 1) ?_)
    rw [v6] at hR
    have h14' : ∀ p, p < 24 → p < n → (mt_enc (c p)).length ≤ 14 := h14
    refine y_gt200' (J148 := wY_goThrough_148 post (nI f) fu) (P := oc t) (sp := sp) (c := c) (I := I) hf (by omega) v1 h74 hN v3 v4 v5 hg (fun x hx => h14' x (by have := ca_lt (B := n) (fun j hj => hbn t j htn z hj) htn x hx; omega) (ca_lt (B := n) (fun j hj => hbn t j htn z hj) htn x hx)) hI h12 (fun I' te' td' tx' yof' yce' yin' e1 x1 x2 => ?_) (fun te' ma' td' tx' e0 => ?_) (oc t) 0 (oc t + 1) td tx (by omega) (by omega) (fun i hi => absurd hi (by simp [pa_st, mt_encs]))
    · unfold cq at hR
      rw [e1] at hR
      rw [nI_1]
      exact ih (t + 1) fu I' te' td' tx' yof' yce' yin' (by omega) (by omega) x1 x2 hR
    · unfold cq at hR
      rw [e0] at hR
      exact h0 te' ma' td' tx' yof yce yin hR.symm

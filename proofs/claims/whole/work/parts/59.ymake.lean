variable {yf_place yf_points yf_names yf_textEnd yf_made yf_entry yf_waiting yf_values yf_bound yf_cells yf_conses yf_lams yf_steps yf_atWork yf_end yf_writtenCount : Int32} {ya_kind ya_up ya_turn ya_depth ya_value ya_below ya_length ya_parameters ya_codes ya_codeCount ya_form ya_colour ya_same ya_one ya_two ya_todo ya_numbered ya_text ya_ofFunction ya_codeEnd ya_instance ya_token ya_env ya_tag ya_cellEnv ya_boundNext ya_step ya_boundNumber ya_boundTag ya_headTag ya_tailTag ya_number ya_boundValue ya_head ya_tail ya_written : Nat → Int32}
/-- instances, as Y holds them -/
def yI (I : List (Nat × List Nat)) (yof yce yin : Nat → Int32) : Prop := ∀ i, i < I.length → (I.getD i (0, [])).1 < 5 ∧ yof i = nI (I.getD i (0, [])).1 ∧ yce i = nI (I.getD i (0, [])).2.length ∧ (I.getD i (0, [])).2.length ≤ 42 ∧ ∀ k, k < (I.getD i (0, [])).2.length → yin (50 * i + k) = nI ((I.getD i (0, [])).2.getD k 0) ∧ (I.getD i (0, [])).2.getD k 0 < 60
theorem ix50 (i k : Nat) : (50 : Int32) * nI i + nI k = nI (50 * i + k) := by rw [show (50 : Int32) * nI i = nI (50 * i) from pk_mul 50 i, nI_add]
theorem y_me42 {post : Int32 → SY → Prop} {J2 : Int32 → Prop} {i : Nat} {x1 : Int32} {L Q : List Nat} (hi : i < 13) (h42 : Q.length ≤ 42) (hl : L.length = Q.length) (hL : ∀ k, k < L.length → ya_instance (50 * i + k) = nI (L.getD k 0) ∧ L.getD k 0 < 60) (hQ : ∀ k, k < Q.length → ya_text k = nI (Q.getD k 0) ∧ Q.getD k 0 < 60)
    (h1 : L = Q → post 1 (yf_place, yf_points, yf_names, (nI Q.length), yf_made, yf_entry, yf_waiting, yf_values, yf_bound, yf_cells, yf_conses, yf_lams, yf_steps, yf_atWork, yf_end, yf_writtenCount, ya_kind, ya_up, ya_turn, ya_depth, ya_value, ya_below, ya_length, ya_parameters, ya_codes, ya_codeCount, ya_form, ya_colour, ya_same, ya_one, ya_two, ya_todo, ya_numbered, ya_text, ya_ofFunction, ya_codeEnd, ya_instance, ya_token, ya_env, ya_tag, ya_cellEnv, ya_boundNext, ya_step, ya_boundNumber, ya_boundTag, ya_headTag, ya_tailTag, ya_number, ya_boundValue, ya_head, ya_tail, ya_written)) (h0 : L ≠ Q → J2 (nI (i + 1))) :
    ∀ q k fu (x : Int32), k + q = Q.length → q < fu → (x = 1 ∧ (∀ j, j < k → L.getD j 0 = Q.getD j 0) ∨ x = 0 ∧ L ≠ Q) → wY_meet_42 post J2 x1 (nI i) yf_place yf_points yf_names (nI Q.length) yf_made yf_entry yf_waiting yf_values yf_bound yf_cells yf_conses yf_lams yf_steps yf_atWork yf_end yf_writtenCount ya_kind ya_up ya_turn ya_depth ya_value ya_below ya_length ya_parameters ya_codes ya_codeCount ya_form ya_colour ya_same ya_one ya_two ya_todo ya_numbered ya_text ya_ofFunction ya_codeEnd ya_instance ya_token ya_env ya_tag ya_cellEnv ya_boundNext ya_step ya_boundNumber ya_boundTag ya_headTag ya_tailTag ya_number ya_boundValue ya_head ya_tail ya_written fu x (nI k) := by
  intro q
  induction q with
  | zero =>
    intro k fu x hk hfu hx
    obtain ⟨fu, rfl⟩ : ∃ g, fu = g + 1 := ⟨fu - 1, by omega⟩
    have e : k = Q.length := by omega
    subst e
    rcases hx with ⟨rfl, hx⟩ | ⟨rfl, hx⟩
    · exact br_t (nI_le (Nat.le_refl _) (by omega)) (br_f n1_0 (h1 (li_ext L Q hl (fun k hk => hx k (by omega)))))
    · exact br_t (nI_le (Nat.le_refl _) (by omega)) (br_t rfl (nm_r (nI_1 i) (h0 hx)))
  | succ q ih =>
    intro k fu x hk hfu hx
    obtain ⟨fu, rfl⟩ : ∃ g, fu = g + 1 := ⟨fu - 1, by omega⟩
    refine br_f (nI_ge (by omega) (by omega)) ?_
    rcases hx with ⟨rfl, hx⟩ | ⟨rfl, hx⟩
    · obtain ⟨d1, d2⟩ := hL k (by omega)
      obtain ⟨e1, e2⟩ := hQ k (by omega)
      refine br_f n1_0 (And.intro (pk_in (50 * i + k) 650 (by omega) (ix50 i k)) (And.intro (pk_in k 50 (by omega)) ?_))
      rw [ix50, nI_clamp (n := 50 * i + k) (by omega), nI_clamp (n := k) (by omega), d1, e1]
      refine pk_eq (L.getD k 0) (Q.getD k 0) (fun z => nm_r (nI_1 k) (ih (k + 1) fu 1 (by omega) (by omega) (Or.inl ⟨rfl, fun j hj => ?_⟩))) (fun z => nm_r (nI_1 k) (ih (k + 1) fu 0 (by omega) (by omega) (Or.inr ⟨rfl, fun w => z (by rw [w])⟩)))
      by_cases y : j = k
      · rw [y]; exact z
      · exact hx j (by omega)
    · exact br_t rfl (br_t rfl (nm_r (nI_1 i) (h0 hx)))
theorem y_me0 {post : Int32 → SY → Prop} {J2 : Int32 → Prop} {i : Nat} {x1 : Int32} (h0 : J2 (nI (i + 1))) : wY_meet_42 post J2 x1 (nI i) yf_place yf_points yf_names yf_textEnd yf_made yf_entry yf_waiting yf_values yf_bound yf_cells yf_conses yf_lams yf_steps yf_atWork yf_end yf_writtenCount ya_kind ya_up ya_turn ya_depth ya_value ya_below ya_length ya_parameters ya_codes ya_codeCount ya_form ya_colour ya_same ya_one ya_two ya_todo ya_numbered ya_text ya_ofFunction ya_codeEnd ya_instance ya_token ya_env ya_tag ya_cellEnv ya_boundNext ya_step ya_boundNumber ya_boundTag ya_headTag ya_tailTag ya_number ya_boundValue ya_head ya_tail ya_written 1 0 0 :=
  br_c (fun _ => br_t rfl (nm_r (nI_1 i) h0)) (fun _ => br_t rfl (br_t rfl (nm_r (nI_1 i) h0)))
theorem y_me139 {post : Int32 → SY → Prop} {m : Nat} {Q : List Nat} (hm : m ≤ 12) (h42 : Q.length ≤ 42) (hQ : ∀ k, k < Q.length → ya_text k = nI (Q.getD k 0) ∧ Q.getD k 0 < 60)
    (hP : ∀ yin : Nat → Int32, (∀ k, k < Q.length → yin (50 * m + k) = nI (Q.getD k 0)) → (∀ j, j < 50 * m ∨ 50 * m + 50 ≤ j → yin j = ya_instance j) → post 1 (yf_place, yf_points, yf_names, (nI Q.length), (nI (m + 1)), yf_entry, yf_waiting, yf_values, yf_bound, yf_cells, yf_conses, yf_lams, yf_steps, yf_atWork, yf_end, yf_writtenCount, ya_kind, ya_up, ya_turn, ya_depth, ya_value, ya_below, ya_length, ya_parameters, ya_codes, ya_codeCount, ya_form, ya_colour, ya_same, ya_one, ya_two, ya_todo, ya_numbered, ya_text, ya_ofFunction, ya_codeEnd, yin, ya_token, ya_env, ya_tag, ya_cellEnv, ya_boundNext, ya_step, ya_boundNumber, ya_boundTag, ya_headTag, ya_tailTag, ya_number, ya_boundValue, ya_head, ya_tail, ya_written)) :
    ∀ q k fu (yin : Nat → Int32), k + q = Q.length → q < fu → (∀ i, i < k → yin (50 * m + i) = nI (Q.getD i 0)) → (∀ j, j < 50 * m ∨ 50 * m + 50 ≤ j → yin j = ya_instance j) → wY_meet_139 post yf_place yf_points yf_names (nI Q.length) (nI m) yf_entry yf_waiting yf_values yf_bound yf_cells yf_conses yf_lams yf_steps yf_atWork yf_end yf_writtenCount fu (nI k) ya_kind ya_up ya_turn ya_depth ya_value ya_below ya_length ya_parameters ya_codes ya_codeCount ya_form ya_colour ya_same ya_one ya_two ya_todo ya_numbered ya_text ya_ofFunction ya_codeEnd yin ya_token ya_env ya_tag ya_cellEnv ya_boundNext ya_step ya_boundNumber ya_boundTag ya_headTag ya_tailTag ya_number ya_boundValue ya_head ya_tail ya_written := by
  intro q
  induction q with
  | zero =>
    intro k fu yin hk hfu h1 h2
    obtain ⟨fu, rfl⟩ : ∃ g, fu = g + 1 := ⟨fu - 1, by omega⟩
    have e : k = Q.length := by omega
    subst e
    exact br_t (nI_le (Nat.le_refl _) (by omega)) (nm_r (nI_1 m) (hP yin h1 h2))
  | succ q ih =>
    intro k fu yin hk hfu h1 h2
    obtain ⟨fu, rfl⟩ : ∃ g, fu = g + 1 := ⟨fu - 1, by omega⟩
    obtain ⟨e1, e2⟩ := hQ k (by omega)
    refine br_f (nI_ge (by omega) (by omega)) (And.intro (pk_in k 50 (by omega)) (And.intro (pk_in (50 * m + k) 650 (by omega) (ix50 m k)) (nm_r (e' := upd yin (50 * m + k) (nI (Q.getD k 0))) (by rw [ix50, nI_clamp (by omega), nI_clamp (by omega), e1, nr_b0 (by omega)]) (nm_r (nI_1 k) (ih (k + 1) fu _ (by omega) (by omega) (fun i hi => ?_) (fun j hj => ?_))))))
    · by_cases z : i = k
      · rw [z, pk_us]
      · rw [pk_un (by omega)]; exact h1 i (by omega)
    · rw [pk_un (by omega)]; exact h2 j hj
theorem yI_app {I : List (Nat × List Nat)} {yof yce yin yin' : Nat → Int32} {g : Nat} {Q : List Nat} (h : yI I yof yce yin) (hg : g < 5) (h42 : Q.length ≤ 42) (h60 : ∀ k, k < Q.length → Q.getD k 0 < 60) (h1 : ∀ k, k < Q.length → yin' (50 * I.length + k) = nI (Q.getD k 0)) (h2 : ∀ j, j < 50 * I.length ∨ 50 * I.length + 50 ≤ j → yin' j = yin j) :
    yI (I ++ [(g, Q)]) (upd yof I.length (nI g)) (upd yce I.length (nI Q.length)) yin' := by
  intro i hi
  rw [List.length_append] at hi
  by_cases z : i < I.length
  · rw [gd_l _ _ _ _ z, pk_un (by omega), pk_un (by omega)]
    obtain ⟨a, b, c, d, e⟩ := h i z
    exact ⟨a, b, c, d, fun k hk => by rw [h2 _ (by omega)]; exact e k hk⟩
  · have e : i = I.length := by simp at hi; omega
    subst e
    have := gd_r [(g, Q)] (0, []) 0 I
    rw [Nat.zero_add] at this
    rw [this, pk_us, pk_us]
    exact ⟨hg, rfl, rfl, h42, fun k hk => ⟨h1 k hk, h60 k hk⟩⟩
theorem y_me2 {post : Int32 → SY → Prop} {I : List (Nat × List Nat)} {g : Nat} {Q : List Nat} (hI : yI I ya_ofFunction ya_codeEnd ya_instance) (h12 : I.length ≤ 12) (hg : g < 5) (h42 : Q.length ≤ 42) (hQ : ∀ k, k < Q.length → ya_text k = nI (Q.getD k 0) ∧ Q.getD k 0 < 60)
    (h1 : ∀ I' yof yce yin, ins I (g, Q) = some I' → yI I' yof yce yin → I'.length ≤ 12 → post 1 (yf_place, yf_points, yf_names, (nI Q.length), (nI I'.length), yf_entry, yf_waiting, yf_values, yf_bound, yf_cells, yf_conses, yf_lams, yf_steps, yf_atWork, yf_end, yf_writtenCount, ya_kind, ya_up, ya_turn, ya_depth, ya_value, ya_below, ya_length, ya_parameters, ya_codes, ya_codeCount, ya_form, ya_colour, ya_same, ya_one, ya_two, ya_todo, ya_numbered, ya_text, yof, yce, yin, ya_token, ya_env, ya_tag, ya_cellEnv, ya_boundNext, ya_step, ya_boundNumber, ya_boundTag, ya_headTag, ya_tailTag, ya_number, ya_boundValue, ya_head, ya_tail, ya_written)) (h0 : ins I (g, Q) = none → post 0 (yf_place, yf_points, yf_names, (nI Q.length), (nI I.length), yf_entry, yf_waiting, yf_values, yf_bound, yf_cells, yf_conses, yf_lams, yf_steps, yf_atWork, yf_end, yf_writtenCount, ya_kind, ya_up, ya_turn, ya_depth, ya_value, ya_below, ya_length, ya_parameters, ya_codes, ya_codeCount, ya_form, ya_colour, ya_same, ya_one, ya_two, ya_todo, ya_numbered, ya_text, ya_ofFunction, ya_codeEnd, ya_instance, ya_token, ya_env, ya_tag, ya_cellEnv, ya_boundNext, ya_step, ya_boundNumber, ya_boundTag, ya_headTag, ya_tailTag, ya_number, ya_boundValue, ya_head, ya_tail, ya_written)) :
    ∀ q i fu, i + q = I.length → q < fu → (∀ k, k < i → I.getD k (0, []) ≠ (g, Q)) → wY_meet_2 post (nI g) yf_place yf_points yf_names (nI Q.length) (nI I.length) yf_entry yf_waiting yf_values yf_bound yf_cells yf_conses yf_lams yf_steps yf_atWork yf_end yf_writtenCount ya_kind ya_up ya_turn ya_depth ya_value ya_below ya_length ya_parameters ya_codes ya_codeCount ya_form ya_colour ya_same ya_one ya_two ya_todo ya_numbered ya_text ya_ofFunction ya_codeEnd ya_instance ya_token ya_env ya_tag ya_cellEnv ya_boundNext ya_step ya_boundNumber ya_boundTag ya_headTag ya_tailTag ya_number ya_boundValue ya_head ya_tail ya_written fu (nI i) := by
  intro q
  induction q with
  | zero =>
    intro i fu hi hfu hn
    obtain ⟨fu, rfl⟩ : ∃ g, fu = g + 1 := ⟨fu - 1, by omega⟩
    have e : i = I.length := by omega
    subst e
    have hnm : ¬ (g, Q) ∈ I := by
      intro z
      obtain ⟨k, k1, k2⟩ := gd_mem' (d := (0, [])) z
      exact hn k k1 k2
    refine br_t (nI_le (Nat.le_refl _) (by omega)) (pk_eq I.length 12 (fun z => h0 (by unfold ins; rw [if_neg hnm, if_pos z])) (fun z => And.intro (pk_in I.length 13 (by omega)) (nm_r (e' := upd ya_ofFunction I.length (nI g)) (by rw [nI_clamp (by omega), nr_b (by omega)]) (And.intro (pk_in I.length 13 (by omega)) (nm_r (e' := upd ya_codeEnd I.length (nI Q.length)) (by rw [nI_clamp (by omega), nr_b (by omega)]) (Exists.intro (Q.length + 1) ?_))))))
    refine y_me139 h12 h42 hQ (fun yin k1 k2 => ?_) Q.length 0 (Q.length + 1) ya_instance (by omega) (by omega) (fun i hi => by omega) (fun _ _ => rfl)
    have := h1 (I ++ [(g, Q)]) _ _ yin (by unfold ins; rw [if_neg hnm, if_neg z]) (yI_app hI hg h42 (fun k hk => (hQ k hk).2) k1 k2) (by rw [List.length_append]; simp; omega)
    rw [List.length_append] at this
    exact this
  | succ q ih =>
    intro i fu hi hfu hn
    obtain ⟨fu, rfl⟩ : ∃ g, fu = g + 1 := ⟨fu - 1, by omega⟩
    obtain ⟨a1, a2, a3, a4, a5⟩ := hI i (by omega)
    have ci : (nI i).toNatClampNeg = i := nI_clamp (by omega)
    have next : I.getD i (0, []) ≠ (g, Q) → wY_meet_2 post (nI g) yf_place yf_points yf_names (nI Q.length) (nI I.length) yf_entry yf_waiting yf_values yf_bound yf_cells yf_conses yf_lams yf_steps yf_atWork yf_end yf_writtenCount ya_kind ya_up ya_turn ya_depth ya_value ya_below ya_length ya_parameters ya_codes ya_codeCount ya_form ya_colour ya_same ya_one ya_two ya_todo ya_numbered ya_text ya_ofFunction ya_codeEnd ya_instance ya_token ya_env ya_tag ya_cellEnv ya_boundNext ya_step ya_boundNumber ya_boundTag ya_headTag ya_tailTag ya_number ya_boundValue ya_head ya_tail ya_written fu (nI (i + 1)) := by
      intro z
      refine ih (i + 1) fu (by omega) (by omega) (fun k hk => ?_)
      by_cases y : k = i
      · rw [y]; exact z
      · exact hn k (by omega)
    refine br_f (nI_ge (by omega) (by omega)) (And.intro (pk_in i 13 (by omega)) ?_)
    rw [ci, a2]
    refine pk_eq (I.getD i (0, [])).1 g (fun z => And.intro (pk_in i 13 (by omega)) ?_) (fun z => Exists.intro 1 (y_me0 (next (fun w => z (by rw [w])))))
    rw [a3]
    refine pk_eq (I.getD i (0, [])).2.length Q.length (fun w => Exists.intro (Q.length + 1) (y_me42 (L := (I.getD i (0, [])).2) (by omega) h42 w a5 hQ (fun y => h1 I _ _ _ ?_ hI h12) (fun y => next (fun v => y (by rw [v]))) Q.length 0 (Q.length + 1) 1 (by omega) (by omega) (Or.inl ⟨rfl, fun j hj => by omega⟩))) (fun w => Exists.intro 1 (y_me0 (next (fun v => w (by rw [v])))))
    unfold ins
    have : I.getD i (0, []) = (g, Q) := Prod.ext z y
    rw [if_pos (by rw [← this]; exact mem_gd (by omega))]
theorem y_meet {post : Int32 → SY → Prop} {I : List (Nat × List Nat)} {g : Nat} {Q : List Nat} (hI : yI I ya_ofFunction ya_codeEnd ya_instance) (h12 : I.length ≤ 12) (hg : g < 5) (h42 : Q.length ≤ 42) (hQ : ∀ k, k < Q.length → ya_text k = nI (Q.getD k 0) ∧ Q.getD k 0 < 60)
    (h1 : ∀ I' yof yce yin, ins I (g, Q) = some I' → yI I' yof yce yin → I'.length ≤ 12 → post 1 (yf_place, yf_points, yf_names, (nI Q.length), (nI I'.length), yf_entry, yf_waiting, yf_values, yf_bound, yf_cells, yf_conses, yf_lams, yf_steps, yf_atWork, yf_end, yf_writtenCount, ya_kind, ya_up, ya_turn, ya_depth, ya_value, ya_below, ya_length, ya_parameters, ya_codes, ya_codeCount, ya_form, ya_colour, ya_same, ya_one, ya_two, ya_todo, ya_numbered, ya_text, yof, yce, yin, ya_token, ya_env, ya_tag, ya_cellEnv, ya_boundNext, ya_step, ya_boundNumber, ya_boundTag, ya_headTag, ya_tailTag, ya_number, ya_boundValue, ya_head, ya_tail, ya_written)) (h0 : ins I (g, Q) = none → post 0 (yf_place, yf_points, yf_names, (nI Q.length), (nI I.length), yf_entry, yf_waiting, yf_values, yf_bound, yf_cells, yf_conses, yf_lams, yf_steps, yf_atWork, yf_end, yf_writtenCount, ya_kind, ya_up, ya_turn, ya_depth, ya_value, ya_below, ya_length, ya_parameters, ya_codes, ya_codeCount, ya_form, ya_colour, ya_same, ya_one, ya_two, ya_todo, ya_numbered, ya_text, ya_ofFunction, ya_codeEnd, ya_instance, ya_token, ya_env, ya_tag, ya_cellEnv, ya_boundNext, ya_step, ya_boundNumber, ya_boundTag, ya_headTag, ya_tailTag, ya_number, ya_boundValue, ya_head, ya_tail, ya_written)) : wpY_meet post (yf_place, yf_points, yf_names, (nI Q.length), (nI I.length), yf_entry, yf_waiting, yf_values, yf_bound, yf_cells, yf_conses, yf_lams, yf_steps, yf_atWork, yf_end, yf_writtenCount, ya_kind, ya_up, ya_turn, ya_depth, ya_value, ya_below, ya_length, ya_parameters, ya_codes, ya_codeCount, ya_form, ya_colour, ya_same, ya_one, ya_two, ya_todo, ya_numbered, ya_text, ya_ofFunction, ya_codeEnd, ya_instance, ya_token, ya_env, ya_tag, ya_cellEnv, ya_boundNext, ya_step, ya_boundNumber, ya_boundTag, ya_headTag, ya_tailTag, ya_number, ya_boundValue, ya_head, ya_tail, ya_written) (nI g) :=
  Exists.intro (I.length + 1) (y_me2 hI h12 hg h42 hQ h1 h0 I.length 0 (I.length + 1) (by omega) (by omega) (fun k hk => by omega))
/-- types of the first p operands -/
def pa_st (a : Nat → Nat) (p : Nat) : List Nat := (List.range p).map a
theorem pa_enc (a : Nat → Nat) (c : Nat → mt_T) (p : Nat) : mt_encs ((pa_st a (p + 1)).map c) = mt_encs ((pa_st a p).map c) ++ mt_enc (c (a p)) := by
  unfold pa_st; rw [List.range_succ, List.map_append, List.map_append, mt_encs_app]; simp [mt_encs]
theorem ca_enc (a : Nat → Nat) (z : Nat) (c : Nat → mt_T) (P : Nat) : mt_encs ((ca_st a z P).map c) = mt_encs ((pa_st a P).map c) ++ mt_enc (c z) := by
  unfold ca_st pa_st; rw [List.map_append, mt_encs_app]; simp [mt_encs]
theorem pa_le {a : Nat → Nat} {c : Nat → mt_T} {P : Nat} (h : ∀ p, p < P → (mt_enc (c (a p))).length ≤ 14) : ∀ p, p ≤ P → (mt_encs ((pa_st a p).map c)).length ≤ 14 * p := by
  intro p
  induction p with
  | zero => intro _; exact Nat.zero_le _
  | succ p ih =>
    intro hp
    have := ih (by omega)
    have := h p (by omega)
    rw [pa_enc, List.length_append]; omega
theorem tc_app {tx tx0 : Nat → Int32} {a b : List Nat} (h1 : ∀ i, i < a.length → tx0 i = nI ((cl_0 a).getD i 0)) (h2 : ∀ i, i < b.length → tx (a.length + i) = nI ((cl_0 b).getD i 0)) (h3 : ∀ i, i < a.length → tx i = tx0 i) :
    ∀ i, i < (a ++ b).length → tx i = nI ((cl_0 (a ++ b)).getD i 0) := by
  intro i hi
  have e : cl_0 (a ++ b) = cl_0 a ++ cl_0 b := by simp [cl_0]
  rw [e]
  by_cases z : i < a.length
  · rw [gd_l _ _ _ _ (by rw [cl_len]; exact z), h3 i z]; exact h1 i z
  · obtain ⟨j, rfl⟩ : ∃ j, i = a.length + j := ⟨i - a.length, by omega⟩
    rw [h2 j (by rw [List.length_append] at hi; omega)]
    have := gd_r (cl_0 b) 0 j (cl_0 a)
    rw [cl_len, Nat.add_comm] at this
    rw [this]
theorem cl_60 (L : List Nat) : ∀ k, k < L.length → (cl_0 L).getD k 0 < 60 := by
  intro k hk
  rw [cl_gd L k hk]; split <;> omega

variable {f_saidPlace f_instanceCount f_nodeCount f_equationCount f_stackCount f_wordCount f_depth f_cellCount f_consCount f_closureCount f_stepCount f_runAnswer f_writtenCount : Int32} {a_kinds a_values a_spans a_bounds a_binders a_lengths a_parameterCounts a_typeCodes a_typeLengths a_instanceFunctions a_nodeKinds a_nodeLefts a_nodeRights a_nodeSizes a_equationLefts a_equationRights a_stackLefts a_stackRights a_words a_boundWords a_cellFirsts a_cellSeconds a_closureTokens a_closureWords a_written : Nat → Int32}
variable {yf_place yf_points yf_names yf_textEnd yf_made yf_entry yf_waiting yf_values yf_bound yf_cells yf_conses yf_lams yf_steps yf_atWork yf_end yf_writtenCount : Int32} {ya_kind ya_up ya_turn ya_depth ya_value ya_below ya_length ya_parameters ya_codes ya_codeCount ya_form ya_colour ya_same ya_one ya_two ya_todo ya_numbered ya_text ya_ofFunction ya_codeEnd ya_instance ya_token ya_env ya_tag ya_cellEnv ya_boundNext ya_step ya_boundNumber ya_boundTag ya_headTag ya_tailTag ya_number ya_boundValue ya_head ya_tail ya_written : Nat → Int32}
section mk
variable {ln P : Nat → Nat} {kN : Nat → Nat → Nat} {vl : Nat → Nat → Int32} {oc sp bd bi : Nat → Nat → Nat} {cod : Nat → List Nat}
theorem y_mk0 {post : Int32 → SY → Prop} {fu : Nat} {x1 x3 : Int32} (h : wY_make_128 post x1 0 yf_place yf_points yf_names yf_textEnd yf_made yf_entry yf_waiting yf_values yf_bound yf_cells yf_conses yf_lams yf_steps yf_atWork yf_end yf_writtenCount ya_kind ya_up ya_turn ya_depth ya_value ya_below ya_length ya_parameters ya_codes ya_codeCount ya_form ya_colour ya_same ya_one ya_two ya_todo ya_numbered ya_text ya_ofFunction ya_codeEnd ya_instance ya_token ya_env ya_tag ya_cellEnv ya_boundNext ya_step ya_boundNumber ya_boundTag ya_headTag ya_tailTag ya_number ya_boundValue ya_head ya_tail ya_written) : wY_make_104 post x1 (fu + 1) 0 x3 yf_place yf_points yf_names yf_textEnd yf_made yf_entry yf_waiting yf_values yf_bound yf_cells yf_conses yf_lams yf_steps yf_atWork yf_end yf_writtenCount ya_kind ya_up ya_turn ya_depth ya_value ya_below ya_length ya_parameters ya_codes ya_codeCount ya_form ya_colour ya_same ya_one ya_two ya_todo ya_numbered ya_text ya_ofFunction ya_codeEnd ya_instance ya_token ya_env ya_tag ya_cellEnv ya_boundNext ya_step ya_boundNumber ya_boundTag ya_headTag ya_tailTag ya_number ya_boundValue ya_head ya_tail ya_written :=
  br_c (fun _ => h) (fun _ => br_t rfl h)
theorem y_mk104 {post : Int32 → SY → Prop} {x1 : Int32} {RS : Option (List (Nat × List Nat))} (hlib : lib ln P kN vl oc sp bd bi cod) (h24 : ∀ g, g < 5 → ln g ≤ 24) (hly : ly_ok ln P kN vl oc sp bd cod ya_kind ya_value ya_up ya_turn ya_depth ya_below ya_length ya_parameters ya_codes ya_codeCount)
    (h1 : ∀ I', RS = some I' → ∀ pt nm te fo sa on tw co td nu tx yof yce yin, yI I' yof yce yin → I'.length ≤ 12 → (∀ x ∈ I', in_ok ln P cod x) →
      wY_make_128 post x1 1 yf_place pt nm te (nI I'.length) yf_entry yf_waiting yf_values yf_bound yf_cells yf_conses yf_lams yf_steps yf_atWork yf_end yf_writtenCount ya_kind ya_up ya_turn ya_depth ya_value ya_below ya_length ya_parameters ya_codes ya_codeCount fo co sa on tw td nu tx yof yce yin ya_token ya_env ya_tag ya_cellEnv ya_boundNext ya_step ya_boundNumber ya_boundTag ya_headTag ya_tailTag ya_number ya_boundValue ya_head ya_tail ya_written)
    (h0 : RS = none → ∀ pt nm te ma fo sa on tw co td nu tx yof yce yin,
      wY_make_128 post x1 0 yf_place pt nm te ma yf_entry yf_waiting yf_values yf_bound yf_cells yf_conses yf_lams yf_steps yf_atWork yf_end yf_writtenCount ya_kind ya_up ya_turn ya_depth ya_value ya_below ya_length ya_parameters ya_codes ya_codeCount fo co sa on tw td nu tx yof yce yin ya_token ya_env ya_tag ya_cellEnv ya_boundNext ya_step ya_boundNumber ya_boundTag ya_headTag ya_tailTag ya_number ya_boundValue ya_head ya_tail ya_written) :
    ∀ k i fu I pt nm te fo sa on tw co td nu tx yof yce yin, i < 100 → k < fu → i + k < 100 → yI I yof yce yin → I.length ≤ 12 → (∀ x ∈ I, in_ok ln P cod x) → mk_is ln P kN vl oc sp bd bi cod k i I RS →
      wY_make_104 post x1 fu 1 (nI i) yf_place pt nm te (nI I.length) yf_entry yf_waiting yf_values yf_bound yf_cells yf_conses yf_lams yf_steps yf_atWork yf_end yf_writtenCount ya_kind ya_up ya_turn ya_depth ya_value ya_below ya_length ya_parameters ya_codes ya_codeCount fo co sa on tw td nu tx yof yce yin ya_token ya_env ya_tag ya_cellEnv ya_boundNext ya_step ya_boundNumber ya_boundTag ya_headTag ya_tailTag ya_number ya_boundValue ya_head ya_tail ya_written := by
  intro k
  induction k with
  | zero => intro i fu I pt nm te fo sa on tw co td nu tx yof yce yin _ _ _ _ _ _ h; exact h.elim
  | succ k ih =>
    intro i fu I pt nm te fo sa on tw co td nu tx yof yce yin hi hfu hik hI h12 hok hmk
    obtain ⟨fu, rfl⟩ : ∃ g, fu = g + 1 := ⟨fu - 1, by omega⟩
    rcases hmk with ⟨z, e⟩ | ⟨z, N, Sol, c, h74, hm, hp, hh⟩
    · exact br_t (nI_le z (by omega)) (h1 I e pt nm te fo sa on tw co td nu tx yof yce yin hI h12 hok)
    · have hx := hok _ (mem_gd (d := (0, [])) z)
      have bad : RS = none → ∀ pt nm te ma fo sa on tw co td nu tx yof yce yin, wY_make_104 post x1 fu 0 (nI i + 1) yf_place pt nm te ma yf_entry yf_waiting yf_values yf_bound yf_cells yf_conses yf_lams yf_steps yf_atWork yf_end yf_writtenCount ya_kind ya_up ya_turn ya_depth ya_value ya_below ya_length ya_parameters ya_codes ya_codeCount fo co sa on tw td nu tx yof yce yin ya_token ya_env ya_tag ya_cellEnv ya_boundNext ya_step ya_boundNumber ya_boundTag ya_headTag ya_tailTag ya_number ya_boundValue ya_head ya_tail ya_written := by
        intro e pt nm te ma fo sa on tw co td nu tx yof yce yin
        obtain ⟨fu, rfl⟩ : ∃ g, fu = g + 1 := ⟨fu - 1, by omega⟩
        exact y_mk0 (h0 e pt nm te ma fo sa on tw co td nu tx yof yce yin)
      refine br_f (nI_ge z (by omega)) (br_f n1_0 ?_)
      refine y_goThrough (I := I) (i := i) (N0 := N) (Sol0 := Sol) (c0 := c) hlib h24 hly hI h12 z hx h74 hm hp (fun hz pt nm te ma fo sa on tw co td nu tx yof yce yin => nm_e (bad ?_ pt nm te ma fo sa on tw co td nu tx yof yce yin)) (fun hs I' e1 pt nm te fo sa on tw co td nu tx yof yce yin x1' x2' => ?_)
      · rcases hh with ⟨_, e⟩ | ⟨q1, ⟨_, e⟩ | ⟨I', e1, _⟩⟩
        · exact e
        · exact e
        · exfalso
          rcases hz with ⟨p, p1, p2⟩ | hz
          · have := q1 p p1; omega
          · rw [hz] at e1; cases e1
      · rcases hh with ⟨⟨p, p1, p2⟩, _⟩ | ⟨q1, ⟨e, _⟩ | ⟨I2, e2, hmk⟩⟩
        · have := hs p p1; omega
        · rw [e] at e1; cases e1
        · rw [e1] at e2
          injection e2 with e2
          subst e2
          refine nm_r (nI_1 i) (ih (i + 1) fu I' pt nm te fo sa on tw co td nu tx yof yce yin (by omega) (by omega) (by omega) x1' x2' (fun y hy => ?_) hmk)
          obtain ⟨J, j1, j2⟩ := fld_ext (p := in_ok ln P cod) _ 0 I I' (fun s _ hs' k4 => in_call hlib hx hm hp hs (by omega) k4) e1
          rw [j1] at hy
          rcases List.mem_append.mp hy with w | w
          · exact hok y w
          · exact j2 y w
/-- the first g rows are kept -/
def ck_ok (ln P : Nat → Nat) (kN : Nat → Nat → Nat) (vl : Nat → Nat → Int32) (oc sp : Nat → Nat → Nat) (G : Nat) (ki va up tu de be len par ki' va' up' tu' de' be' len' par' : Nat → Int32) : Prop :=
  (∀ g, g < G → ln g ≠ 0 → par' (6 + g) = nI (P g) ∧ ∀ t, t < ln g → ki' (24 * (6 + g) + t) = nI (kN g t) ∧ va' (24 * (6 + g) + t) = vl g t ∧ ∀ j, j < oc g t → be' (72 * (6 + g) + 3 * t + j) = nI (jp (sp g) t j)) ∧
  (∀ j, j < 144 → ki' j = ki j ∧ va' j = va j ∧ up' j = up j ∧ tu' j = tu j ∧ de' j = de j) ∧ (∀ j, j < 432 → be' j = be j) ∧ (∀ j, j < 6 → len' j = len j ∧ par' j = par j)
theorem y_mk152 {post : Int32 → SY → Prop} (hlib : lib ln P kN vl oc sp bd bi cod) (h24 : ∀ g, g < 5 → ln g ≤ 24) (hly : ly_ok ln P kN vl oc sp bd cod ya_kind ya_value ya_up ya_turn ya_depth ya_below ya_length ya_parameters ya_codes ya_codeCount)
    (hP : ∀ ki va up tu de be len par, ck_ok ln P kN vl oc sp 5 ya_kind ya_value ya_up ya_turn ya_depth ya_below ya_length ya_parameters ki va up tu de be len par → post 0 (yf_place, yf_points, yf_names, yf_textEnd, yf_made, yf_entry, yf_waiting, yf_values, yf_bound, yf_cells, yf_conses, yf_lams, yf_steps, yf_atWork, yf_end, yf_writtenCount, ki, up, tu, de, va, be, len, par, ya_codes, ya_codeCount, ya_form, ya_colour, ya_same, ya_one, ya_two, ya_todo, ya_numbered, ya_text, ya_ofFunction, ya_codeEnd, ya_instance, ya_token, ya_env, ya_tag, ya_cellEnv, ya_boundNext, ya_step, ya_boundNumber, ya_boundTag, ya_headTag, ya_tailTag, ya_number, ya_boundValue, ya_head, ya_tail, ya_written)) :
    ∀ q g fu ki va up tu de be len par, g + q = 5 → q < fu → ck_ok ln P kN vl oc sp g ya_kind ya_value ya_up ya_turn ya_depth ya_below ya_length ya_parameters ki va up tu de be len par →
      wY_make_152 post 1 fu (nI g) yf_place yf_points yf_names yf_textEnd yf_made yf_entry yf_waiting yf_values yf_bound yf_cells yf_conses yf_lams yf_steps yf_atWork yf_end yf_writtenCount ki up tu de va be len par ya_codes ya_codeCount ya_form ya_colour ya_same ya_one ya_two ya_todo ya_numbered ya_text ya_ofFunction ya_codeEnd ya_instance ya_token ya_env ya_tag ya_cellEnv ya_boundNext ya_step ya_boundNumber ya_boundTag ya_headTag ya_tailTag ya_number ya_boundValue ya_head ya_tail ya_written := by
  intro q
  induction q with
  | zero =>
    intro g fu ki va up tu de be len par hg hfu h
    obtain ⟨fu, rfl⟩ : ∃ g, fu = g + 1 := ⟨fu - 1, by omega⟩
    have e : g = 5 := by omega
    subst e
    exact br_t (nI_le (a := 5) (by omega) (by omega)) (br_f n1_0 (hP ki va up tu de be len par h))
  | succ q ih =>
    intro g fu ki va up tu de be len par hg hfu h
    obtain ⟨fu, rfl⟩ : ∃ g, fu = g + 1 := ⟨fu - 1, by omega⟩
    obtain ⟨c1, c2, c3, c4⟩ := h
    refine br_f (nI_ge (b := 5) (by omega) (by omega)) (br_f n1_0 ?_)
    rw [show (6 : Int32) + nI g = nI (6 + g) from nI_add 6 g]
    refine y_copy (F := g) (T := 6 + g) (by omega) (by omega) (by omega) (fun ki' va' up' tu' de' be' hk => nm_r (nI_1 g) (ih (g + 1) fu ki' va' up' tu' de' be' _ _ (by omega) (by omega) ⟨fun h' hh hl => ?_, fun j hj => ?_, fun j hj => ?_, fun j hj => ?_⟩))
    · have n24 := h24 h' (by omega)
      obtain ⟨b1, _⟩ := hlib h' (by omega) hl
      by_cases z : h' = g
      · subst z
        obtain ⟨y3, y4, _⟩ := (hly h' (by omega)).2 hl
        have hp2 := (hlib h' (by omega) hl).2.2.1
        rw [pk_us, (c4 h' (by omega)).2, y3, nr_b0 (by omega)]
        refine ⟨rfl, fun t ht => ?_⟩
        obtain ⟨z1, z2, z3, z4, _⟩ := y4 t ht
        obtain ⟨d1, d2, _⟩ := hk.1 t (by omega)
        obtain ⟨f1, f2, f3, f4, f5, f6⟩ := b1.2.2.2.2 t ht
        rw [d1, d2, (c2 _ (by omega)).1, (c2 _ (by omega)).2.1, z1, z2]
        refine ⟨nr_b0 (by omega), rfl, fun j hj => ?_⟩
        have h1 := hk.2.1 (3 * t + j) (by omega)
        have h2 := (bw_in b1.2.1 ht hj).2.2
        rw [← Nat.add_assoc, ← Nat.add_assoc, c3 _ (by omega), z4 j hj] at h1
        rw [h1]; exact nr_s0 (by omega)
      · obtain ⟨a1, a2⟩ := c1 h' (by omega) hl
        rw [pk_un (by omega)]
        refine ⟨a1, fun t ht => ?_⟩
        obtain ⟨e1, e2, _⟩ := hk.2.2.1 (24 * (6 + h') + t) (by omega)
        obtain ⟨q1, q2, q3⟩ := a2 t ht
        rw [e1, e2]
        refine ⟨q1, q2, fun j hj => ?_⟩
        have := (b1.2.2.2.2 t ht).2.1
        rw [hk.2.2.2 _ (by omega)]; exact q3 j hj
    · obtain ⟨e1, e2, e3, e4, e5⟩ := hk.2.2.1 j (by omega)
      rw [e1, e2, e3, e4, e5]; exact c2 j hj
    · rw [hk.2.2.2 j (by omega)]; exact c3 j hj
    · rw [pk_un (by omega), pk_un (by omega)]; exact c4 j hj
theorem y_mk45 {post : Int32 → SY → Prop} {f : Nat} {Lc : List Nat} (hf : f < 5) (h14 : Lc.length ≤ 14) (h60 : ∀ k, k < Lc.length → Lc.getD k 0 < 60) (hco : ∀ k, k < Lc.length → ya_codes (48 * f + k) = nI (Lc.getD k 0))
    (hP : ∀ fu tx, (∀ k, k < Lc.length → tx k = nI ((cl_0 Lc).getD k 0)) → wY_make_45 post (nI f) yf_place yf_points yf_names (nI Lc.length) yf_made yf_entry yf_waiting yf_values yf_bound yf_cells yf_conses yf_lams yf_steps yf_atWork yf_end yf_writtenCount (fu + 1) (nI Lc.length) ya_kind ya_up ya_turn ya_depth ya_value ya_below ya_length ya_parameters ya_codes ya_codeCount ya_form ya_colour ya_same ya_one ya_two ya_todo ya_numbered tx ya_ofFunction ya_codeEnd ya_instance ya_token ya_env ya_tag ya_cellEnv ya_boundNext ya_step ya_boundNumber ya_boundTag ya_headTag ya_tailTag ya_number ya_boundValue ya_head ya_tail ya_written) :
    ∀ q k fu tx, k + q = Lc.length → q < fu → (∀ i, i < k → tx i = nI ((cl_0 Lc).getD i 0)) → wY_make_45 post (nI f) yf_place yf_points yf_names (nI Lc.length) yf_made yf_entry yf_waiting yf_values yf_bound yf_cells yf_conses yf_lams yf_steps yf_atWork yf_end yf_writtenCount fu (nI k) ya_kind ya_up ya_turn ya_depth ya_value ya_below ya_length ya_parameters ya_codes ya_codeCount ya_form ya_colour ya_same ya_one ya_two ya_todo ya_numbered tx ya_ofFunction ya_codeEnd ya_instance ya_token ya_env ya_tag ya_cellEnv ya_boundNext ya_step ya_boundNumber ya_boundTag ya_headTag ya_tailTag ya_number ya_boundValue ya_head ya_tail ya_written := by
  intro q
  induction q with
  | zero =>
    intro k fu tx hk hfu h
    obtain ⟨fu, rfl⟩ : ∃ g, fu = g + 1 := ⟨fu - 1, by omega⟩
    have e : k = Lc.length := by omega
    subst e
    exact hP fu tx h
  | succ q ih =>
    intro k fu tx hk hfu h
    obtain ⟨fu, rfl⟩ : ∃ g, fu = g + 1 := ⟨fu - 1, by omega⟩
    have e48 : (48 : Int32) * nI f + nI k = nI (48 * f + k) := by rw [show (48 : Int32) * nI f = nI (48 * f) from pk_mul 48 f, nI_add]
    have c48 : (nI (48 * f + k)).toNatClampNeg = 48 * f + k := nI_clamp (by omega)
    have h60' := h60 k (by omega)
    have cg := cl_gd Lc k (by omega)
    have fin : ∀ x : Int32, x = nI ((cl_0 Lc).getD k 0) → wY_make_45 post (nI f) yf_place yf_points yf_names (nI Lc.length) yf_made yf_entry yf_waiting yf_values yf_bound yf_cells yf_conses yf_lams yf_steps yf_atWork yf_end yf_writtenCount fu (nI (k + 1)) ya_kind ya_up ya_turn ya_depth ya_value ya_below ya_length ya_parameters ya_codes ya_codeCount ya_form ya_colour ya_same ya_one ya_two ya_todo ya_numbered (upd tx k x) ya_ofFunction ya_codeEnd ya_instance ya_token ya_env ya_tag ya_cellEnv ya_boundNext ya_step ya_boundNumber ya_boundTag ya_headTag ya_tailTag ya_number ya_boundValue ya_head ya_tail ya_written := by
      intro x hx
      refine ih (k + 1) fu _ (by omega) (by omega) (fun i hi => ?_)
      by_cases z : i = k
      · rw [z, pk_us, hx]
      · rw [pk_un z]; exact h i (by omega)
    refine br_f (nI_ge (by omega) (by omega)) (And.intro (pk_in (48 * f + k) 240 (by omega) e48) ?_)
    rw [e48, c48, hco k (by omega)]
    refine pk_le (Lc.getD k 0) 9 (fun z => And.intro (pk_in (48 * f + k) 240 (by omega)) (And.intro (pk_in k 50 (by omega)) (nm_r (e' := upd tx k (nI (Lc.getD k 0))) (by rw [nI_clamp (by omega), nr_b0 (by omega)]) (nm_r (nI_1 k) (fin _ (by rw [cg, if_pos (by omega)])))))) (fun z => And.intro (pk_in k 50 (by omega)) (nm_r (e' := upd tx k 0) (by rw [nI_clamp (by omega)]; exact congrArg _ (nr_b0 (n := 0) (by omega))) (nm_r (nI_1 k) (fin _ (by rw [cg, if_neg (by omega)]; rfl)))))
theorem y_make {post : Int32 → SY → Prop} {f : Nat} {RS : Option (List (Nat × List Nat))} (hf : f < 5) (hl : ln f ≠ 0) (hP0 : P f = 0) (hlib : lib ln P kN vl oc sp bd bi cod) (h24 : ∀ g, g < 5 → ln g ≤ 24) (hly : ly_ok ln P kN vl oc sp bd cod ya_kind ya_value ya_up ya_turn ya_depth ya_below ya_length ya_parameters ya_codes ya_codeCount)
    (hin : in_ok ln P cod (f, cl_0 (cod f))) (hmk : mk_is ln P kN vl oc sp bd bi cod 13 0 [(f, cl_0 (cod f))] RS)
    (h1 : ∀ I', RS = some I' → ∀ pt nm te fo sa on tw co td nu tx yof yce yin ki va up tu de be len par, yI I' yof yce yin → I'.length ≤ 12 → (∀ x ∈ I', in_ok ln P cod x) → ck_ok ln P kN vl oc sp 5 ya_kind ya_value ya_up ya_turn ya_depth ya_below ya_length ya_parameters ki va up tu de be len par →
      post 0 (yf_place, pt, nm, te, (nI I'.length), (nI f), yf_waiting, yf_values, yf_bound, yf_cells, yf_conses, yf_lams, yf_steps, yf_atWork, yf_end, yf_writtenCount, ki, up, tu, de, va, be, len, par, ya_codes, ya_codeCount, fo, co, sa, on, tw, td, nu, tx, yof, yce, yin, ya_token, ya_env, ya_tag, ya_cellEnv, ya_boundNext, ya_step, ya_boundNumber, ya_boundTag, ya_headTag, ya_tailTag, ya_number, ya_boundValue, ya_head, ya_tail, ya_written))
    (h0 : RS = none → ∀ pt nm te fo sa on tw co td nu tx yof yce yin,
      post 4 (yf_place, pt, nm, te, 0, (-1), yf_waiting, yf_values, yf_bound, yf_cells, yf_conses, yf_lams, yf_steps, yf_atWork, yf_end, yf_writtenCount, ya_kind, ya_up, ya_turn, ya_depth, ya_value, ya_below, ya_length, ya_parameters, ya_codes, ya_codeCount, fo, co, sa, on, tw, td, nu, tx, yof, yce, yin, ya_token, ya_env, ya_tag, ya_cellEnv, ya_boundNext, ya_step, ya_boundNumber, ya_boundTag, ya_headTag, ya_tailTag, ya_number, ya_boundValue, ya_head, ya_tail, ya_written)) :
    wpY_make post (yf_place, yf_points, yf_names, yf_textEnd, yf_made, yf_entry, yf_waiting, yf_values, yf_bound, yf_cells, yf_conses, yf_lams, yf_steps, yf_atWork, yf_end, yf_writtenCount, ya_kind, ya_up, ya_turn, ya_depth, ya_value, ya_below, ya_length, ya_parameters, ya_codes, ya_codeCount, ya_form, ya_colour, ya_same, ya_one, ya_two, ya_todo, ya_numbered, ya_text, ya_ofFunction, ya_codeEnd, ya_instance, ya_token, ya_env, ya_tag, ya_cellEnv, ya_boundNext, ya_step, ya_boundNumber, ya_boundTag, ya_headTag, ya_tailTag, ya_number, ya_boundValue, ya_head, ya_tail, ya_written) (nI f) := by
  obtain ⟨y1, y2⟩ := hly f hf
  obtain ⟨y3, y4, y5, y6⟩ := y2 hl
  obtain ⟨_, _, _, _, _, _, _, l8, l9, _⟩ := hlib f hf hl
  rw [hP0] at l8 y3
  have h24f := h24 f hf
  have cf : (nI f).toNatClampNeg = f := nI_clamp (by omega)
  unfold wpY_make
  refine y_out (fun z => ?_) (fun _ _ => br_t rfl (And.intro (pk_in f 11 (by omega)) ?_))
  · rcases z with z | z
    · exact absurd z (lt0_n (by omega))
    · exact absurd (nI_lt (b := 5) (by omega) (by omega)) z
  rw [cf, y1]
  refine br_f (fun w => hl ((nI0 (by omega)).mp w)) (And.intro (pk_in f 11 (by omega)) ?_)
  rw [y3]
  refine br_t (by decide) (And.intro (pk_in f 5 hf) (nm_r y5 (Exists.intro ((cod f).length + 1) ?_)))
  refine y_mk45 (yf_made := 0) (Lc := cod f) hf (by omega) l9 y6 (fun fu tx htx => br_t (nI_le (Nat.le_refl _) (by omega)) ?_) (cod f).length 0 ((cod f).length + 1) ya_text (by omega) (by omega) (fun i hi => by omega)
  rw [← cl_len (cod f)]
  refine y_meet (ya_text := tx) (I := []) (g := f) (Q := cl_0 (cod f)) (fun i hi => absurd hi (by simp)) (by simp) hf (by rw [cl_len]; omega) (fun k hk => by rw [cl_len] at hk; exact ⟨htx k hk, cl_60 _ k hk⟩) (fun I' yof yce yin e1 x1 x2 => ?_) (fun e0 => ?_)
  · have eI : I' = [(f, cl_0 (cod f))] := by
      unfold ins at e1
      rw [if_neg (by simp), if_neg (by simp)] at e1
      injection e1 with e1
      exact e1.symm
    subst eI
    refine Exists.intro 14 (y_mk104 (RS := RS) hlib h24 hly (fun I' eR pt nm te fo sa on tw co td nu tx yof yce yin q1 q2 q3 => ?_) (fun eR pt nm te ma fo sa on tw co td nu tx yof yce yin => ?_) 13 0 14 _ _ _ _ _ _ _ _ _ _ _ tx yof yce yin (by omega) (by omega) (by omega) x1 x2 (fun x hx => ?_) hmk)
    · refine br_f n1_0 (br_f n1_0 (Exists.intro 6 ?_))
      exact y_mk152 hlib h24 hly (fun ki va up tu de be len par hk => h1 I' eR pt nm te fo sa on tw co td nu tx yof yce yin ki va up tu de be len par q1 q2 q3 hk) 5 0 6 _ _ _ _ _ _ _ _ (by omega) (by omega) ⟨fun g hg => by omega, fun _ _ => ⟨rfl, rfl, rfl, rfl, rfl⟩, fun _ _ => rfl, fun _ _ => ⟨rfl, rfl⟩⟩
    · exact br_t rfl (br_t rfl (Exists.intro 1 (br_f (by decide) (br_t rfl (br_t rfl (h0 eR pt nm te fo sa on tw co td nu tx yof yce yin))))))
    · simp at hx; rw [hx]; exact hin
  · exfalso
    unfold ins at e0
    rw [if_neg (by simp), if_neg (by simp)] at e0
    cases e0
theorem x_make {post : Int32 → SX → Prop} {f : Nat} (hf : f < 5) (hl : ln f ≠ 0) (hP0 : P f = 0) (hlib : lib ln P kN vl oc sp bd bi cod) (hlx : lx_ok ln P kN vl sp bd bi cod a_kinds a_values a_spans a_bounds a_binders a_lengths a_parameterCounts a_typeCodes a_typeLengths) (hin : in_ok ln P cod (f, cl_0 (cod f)))
    (h1 : ∀ I' nc ec sc ifn tc tl K nl nr sz el er sl sr ki va spa bou len pc, mk_is ln P kN vl oc sp bd bi cod 13 0 [(f, cl_0 (cod f))] (some I') → xI I' ifn tc tl → I'.length ≤ 12 → lw_same a_typeCodes a_typeLengths tc tl →
      kp_ok ln (fun g _ => g < 5) a_kinds a_values a_spans a_bounds ki va spa bou → (∀ g, g < 5 → len (5 + g) = a_lengths g ∧ pc (5 + g) = a_parameterCounts g) → (∀ j, j < 5 ∨ 10 ≤ j → len j = a_lengths j ∧ pc j = a_parameterCounts j) →
      post 0 (f_saidPlace, (nI I'.length), nc, ec, sc, f_wordCount, f_depth, f_cellCount, f_consCount, f_closureCount, f_stepCount, f_runAnswer, f_writtenCount, ki, va, spa, bou, a_binders, len, pc, tc, tl, ifn, K, nl, nr, sz, el, er, sl, sr, a_words, a_boundWords, a_cellFirsts, a_cellSeconds, a_closureTokens, a_closureWords, a_written))
    (h0 : ∀ nc ec sc ifn tc tl K nl nr sz el er sl sr, mk_is ln P kN vl oc sp bd bi cod 13 0 [(f, cl_0 (cod f))] none → lw_same a_typeCodes a_typeLengths tc tl →
      post 4 (f_saidPlace, 0, nc, ec, sc, f_wordCount, f_depth, f_cellCount, f_consCount, f_closureCount, f_stepCount, f_runAnswer, f_writtenCount, a_kinds, a_values, a_spans, a_bounds, a_binders, a_lengths, a_parameterCounts, tc, tl, ifn, K, nl, nr, sz, el, er, sl, sr, a_words, a_boundWords, a_cellFirsts, a_cellSeconds, a_closureTokens, a_closureWords, a_written)) :
    wpX_make post (f_saidPlace, f_instanceCount, f_nodeCount, f_equationCount, f_stackCount, f_wordCount, f_depth, f_cellCount, f_consCount, f_closureCount, f_stepCount, f_runAnswer, f_writtenCount, a_kinds, a_values, a_spans, a_bounds, a_binders, a_lengths, a_parameterCounts, a_typeCodes, a_typeLengths, a_instanceFunctions, a_nodeKinds, a_nodeLefts, a_nodeRights, a_nodeSizes, a_equationLefts, a_equationRights, a_stackLefts, a_stackRights, a_words, a_boundWords, a_cellFirsts, a_cellSeconds, a_closureTokens, a_closureWords, a_written) (nI f) := by
  obtain ⟨x1, x2, x3⟩ := hlx f hf
  obtain ⟨x4, x5, x6⟩ := x3 hl
  have cf : (nI f).toNatClampNeg = f := nI_clamp (by omega)
  have hl14 := (hlib f hf hl).2.2.2.2.2.2.2.1
  rw [hP0] at x4 hl14
  refine br_f (lt0_n (by omega)) (br_f (nI_ge (b := 5) (by omega) (by omega)) (And.intro (pk_in f 11 (by omega)) ?_))
  rw [cf, x1]
  refine br_f (fun w => hl ((nI0 (by omega)).mp w)) (And.intro (pk_in f 11 (by omega)) ?_)
  rw [x4]
  refine br_t rfl (x_beginInstances (Lc := cod f) hf x6 (fun tc k1 k2 => Exists.intro 14 ?_))
  refine x_mk38 (tc0 := a_typeCodes) (tl0 := a_typeLengths) (i0 := 0) (I0 := [(f, cl_0 (cod f))]) hlib hlx (fun I' nc ec sc ifn tc tl K nl nr sz el er sl sr q1 q2 q3 q4 => br_f n1_0 ?_) (fun ic nc ec sc ifn tc tl K nl nr sz el er sl sr q1 q2 => br_t rfl (h0 nc ec sc ifn tc tl K nl nr sz el er sl sr q1 q2)) 12 0 14 [(f, cl_0 (cod f))] _ _ _ _ tc _ _ _ _ _ _ _ _ _ (by omega) (by omega) (fun i hi => ?_) (by simp) (fun x hx => by simp at hx; rw [hx]; exact hin) ⟨fun j hj => k2 j (by omega), fun j hj => pk_un (by omega)⟩ (fun R h => h)
  · exact x_keepBodies (ln := ln) (fun g hg => (hlx g hg).2.1) (fun g hg => (hlx g hg).1) (fun ki va spa bou len pc w1 w2 w3 => h1 I' nc ec sc ifn tc tl K nl nr sz el er sl sr ki va spa bou len pc q1 q2 q3 q4 w1 w2 w3)
  · have e : i = 0 := by simp at hi; omega
    subst e
    refine ⟨hf, pk_us, by omega, by rw [show ([(f, cl_0 (cod f))] : List (Nat × List Nat)).getD 0 (0, []) = (f, cl_0 (cod f)) from rfl, cl_len]; omega, ?_, fun k hk => ?_⟩
    · show upd a_typeLengths 5 _ 5 = nI (cl_0 (cod f)).length
      rw [pk_us, cl_len]
    · have hk' : k < (cod f).length := by rw [← cl_len]; exact hk
      exact ⟨k1 k hk', by have := cl_60 (cod f) k hk'; exact Nat.lt_trans this (by omega)⟩
end mk

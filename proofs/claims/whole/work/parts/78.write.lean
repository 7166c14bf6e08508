variable {f_saidPlace f_instanceCount f_nodeCount f_equationCount f_stackCount f_wordCount f_depth f_cellCount f_consCount f_closureCount f_stepCount f_runAnswer f_writtenCount : Int32} {a_kinds a_values a_spans a_bounds a_binders a_lengths a_parameterCounts a_typeCodes a_typeLengths a_instanceFunctions a_nodeKinds a_nodeLefts a_nodeRights a_nodeSizes a_equationLefts a_equationRights a_stackLefts a_stackRights a_words a_boundWords a_cellFirsts a_cellSeconds a_closureTokens a_closureWords a_written : Nat → Int32}
variable {yf_place yf_points yf_names yf_textEnd yf_made yf_entry yf_waiting yf_values yf_bound yf_cells yf_conses yf_lams yf_steps yf_atWork yf_end yf_writtenCount : Int32} {ya_kind ya_up ya_turn ya_depth ya_value ya_below ya_length ya_parameters ya_codes ya_codeCount ya_form ya_colour ya_same ya_one ya_two ya_todo ya_numbered ya_text ya_ofFunction ya_codeEnd ya_instance ya_token ya_env ya_tag ya_cellEnv ya_boundNext ya_step ya_boundNumber ya_boundTag ya_headTag ya_tailTag ya_number ya_boundValue ya_head ya_tail ya_written : Nat → Int32}
variable {ln P : Nat → Nat} {kN : Nat → Nat → Nat} {vl : Nat → Nat → Int32} {oc sp bd bi : Nat → Nat → Nat} {cod : Nat → List Nat}
/-- the codes from a place on begin with those of the tree there -/
theorem tk_drop {L : List Nat} {tau : Nat → mt_T} (h : tk_at L tau) : ∀ n k, k < L.length → mt_sz (tau k) ≤ n → ∃ X, L.drop k = mt_enc (tau k) ++ X := by
  intro n
  induction n with
  | zero => intro k _ hs; cases e : tau k <;> rw [e] at hs <;> simp [mt_sz] at hs
  | succ n ih =>
    intro k hk hs
    obtain ⟨h1, h2, h3, h4⟩ := h k hk
    have hd := dr_c hk
    cases e : tau k with
    | leaf m =>
      rw [e] at h2
      exact ⟨L.drop (k + 1), by rw [hd, h2]; rfl⟩
    | branch c a b =>
      rw [e] at h2 hs h3 h1
      obtain ⟨q1, q2⟩ := h4 a b c e
      simp only [mt_sz] at hs
      have hne := mt_enc_ne a
      by_cases z : c = 3
      · simp only [mt_enc, if_pos z, List.append_nil, List.length_cons] at h3
        obtain ⟨X, hX⟩ := ih (k + 1) (by omega) (by rw [q1]; omega)
        rw [q1] at hX
        exact ⟨X, by rw [hd, h2, hX]; simp [mt_enc, z, mt_hd]⟩
      · have hneb := mt_enc_ne b
        simp only [mt_enc, if_neg z, List.length_append, List.length_cons] at h3
        obtain ⟨X, hX⟩ := ih (k + 1) (by omega) (by rw [q1]; omega)
        rw [q1] at hX
        obtain ⟨X2, hX2⟩ := ih (k + 1 + (mt_enc a).length) (by omega) (by rw [q2 z]; omega)
        rw [q2 z, ← List.drop_drop, hX, List.drop_left] at hX2
        exact ⟨X2, by rw [hd, h2, hX, hX2]; simp [mt_enc, z, mt_hd]⟩
theorem x_bt7 {post : Int32 → Prop} {L : List Nat} {N : Nat} {X : List Nat} (hL : L.length ≤ 14) (hc : ∀ k, k < L.length → a_typeCodes (210 + k) = nI (L.getD k 0) ∧ L.getD k 0 < 100) (hp : post (nI (210 + N))) :
    ∀ m us i p fu, (∀ t ∈ us, mt_wf t) → L.drop p = mt_encs us ++ X → (mt_encs us).length = m → p + m = N → N ≤ L.length → i ≤ p → m < fu → wX_behindType_7 post f_saidPlace f_instanceCount f_nodeCount f_equationCount f_stackCount f_wordCount f_depth f_cellCount f_consCount f_closureCount f_stepCount f_runAnswer f_writtenCount a_kinds a_values a_spans a_bounds a_binders a_lengths a_parameterCounts a_typeCodes a_typeLengths a_instanceFunctions a_nodeKinds a_nodeLefts a_nodeRights a_nodeSizes a_equationLefts a_equationRights a_stackLefts a_stackRights a_words a_boundWords a_cellFirsts a_cellSeconds a_closureTokens a_closureWords a_written fu (nI (210 + p)) (nI us.length) (nI i) := by
  intro m
  induction m with
  | zero =>
    intro us i p fu hw hd hm hN hNL hi hfu
    obtain ⟨fu, rfl⟩ : ∃ g, fu = g + 1 := ⟨fu - 1, by omega⟩
    have hu : us = [] := by
      have := mt_encs_len (ts := us)
      exact List.length_eq_zero_iff.mp (by omega)
    subst hu
    have e : p = N := by omega
    subst e
    exact br_c (fun _ => hp) (fun _ => br_t (by decide) hp)
  | succ m ih =>
    intro us i p fu hw hd hm hN hNL hi hfu
    obtain ⟨fu, rfl⟩ : ∃ g, fu = g + 1 := ⟨fu - 1, by omega⟩
    have hpl : p < L.length := by omega
    obtain ⟨c, l, ecl⟩ : ∃ c l, mt_encs us = c :: l := by
      cases e : mt_encs us with
      | nil => rw [e] at hm; simp at hm
      | cons c l => exact ⟨c, l, rfl⟩
    obtain ⟨u, rest, e1, e2, ws, w1, w2, w3⟩ := sx_1 us hw c l ecl
    have hg : L.getD p 0 = c ∧ L.drop (p + 1) = l ++ X := by
      rw [ecl, List.cons_append] at hd
      obtain ⟨a, b, _⟩ := dr_s hd
      exact ⟨a, b⟩
    have hml : l.length = m := by rw [ecl] at hm; simpa using hm
    have hul : us.length ≤ 14 := by have := mt_encs_len (ts := us); omega
    have en : nI (210 + p) + 1 = nI (210 + (p + 1)) := nI_1 (210 + p)
    have next : ∀ x3 : Int32, x3 = nI ws.length → wX_behindType_7 post f_saidPlace f_instanceCount f_nodeCount f_equationCount f_stackCount f_wordCount f_depth f_cellCount f_consCount f_closureCount f_stepCount f_runAnswer f_writtenCount a_kinds a_values a_spans a_bounds a_binders a_lengths a_parameterCounts a_typeCodes a_typeLengths a_instanceFunctions a_nodeKinds a_nodeLefts a_nodeRights a_nodeSizes a_equationLefts a_equationRights a_stackLefts a_stackRights a_words a_boundWords a_cellFirsts a_cellSeconds a_closureTokens a_closureWords a_written fu (nI (210 + (p + 1))) x3 (nI (i + 1)) := by
      intro x3 e3
      subst e3
      exact ih ws (i + 1) (p + 1) fu w1 (by rw [w2]; exact hg.2) (by rw [w2]; exact hml) (by omega) hNL (by omega) (by omega)
    have hus : 0 < us.length := by rw [e1]; simp
    refine br_f (nI_ge (b := 14) (by omega) (by omega)) (br_f (nI_nle hus (by omega)) (And.intro (pk_in (210 + p) 756 (by omega)) (nm_r (e' := nI c) (by rw [nI_clamp (by omega), (hc p hpl).1, hg.1]) ?_)))
    rcases w3 with ⟨⟨n, en'⟩, ew⟩ | ⟨a, ea, ew⟩ | ⟨a, b, ec, ea, ew⟩
    · have hnl : ¬ gr_lf (nI c) := by
        have hwu := hw u (by rw [e1]; simp)
        rw [en'] at hwu e2
        have e2' : n = c := e2
        rw [e2'] at hwu
        rcases hwu with z | z | z
        · rw [z]; intro y; rcases y with y | y | y <;> exact absurd y (by decide)
        · rw [z]; intro y; rcases y with y | y | y <;> exact absurd y (by decide)
        · have := (hc p hpl).2
          exact (ni_big z (by omega)).1
      refine x_hasRight (fun z => absurd (Or.inr z) hnl) (fun _ => br_t rfl (x_hasLeft (fun z => absurd z hnl) (fun _ => br_t rfl (nm_e (nm_r en (nm_r (nI_1 i) (next _ ?_)))))))
      rw [ew, e1, List.length_cons, pk_m1]
    · have e3 : c = 3 := by rw [← e2, ea]; rfl
      subst e3
      refine x_hasRight (fun z => absurd z nrg3) (fun _ => br_t rfl (x_hasLeft (fun _ => br_f n1_0 (nm_e (nm_r en (nm_r (nI_1 i) (next _ ?_))))) (fun z => absurd (Or.inl rfl) z)))
      rw [ew, e1, Int32.add_zero]; rfl
    · have hr : gr_rg (nI c) := by rcases ec with z | z <;> rw [z]; exact Or.inl rfl; exact Or.inr rfl
      refine x_hasRight (fun _ => br_f n1_0 (nm_e (nm_r en (nm_r (nI_1 i) (next _ ?_))))) (fun z => absurd hr z)
      rw [ew, e1, List.length_cons, nI_1]; rfl
theorem x_behind {post : Int32 → Prop} {L : List Nat} {tau : Nat → mt_T} {p : Nat} (hL : L.length ≤ 14) (hc : ∀ k, k < L.length → a_typeCodes (210 + k) = nI (L.getD k 0) ∧ L.getD k 0 < 100) (ht : tk_at L tau) (hp : p < L.length) (h : post (nI (210 + (p + (mt_enc (tau p)).length)))) : wpX_behindType post (f_saidPlace, f_instanceCount, f_nodeCount, f_equationCount, f_stackCount, f_wordCount, f_depth, f_cellCount, f_consCount, f_closureCount, f_stepCount, f_runAnswer, f_writtenCount, a_kinds, a_values, a_spans, a_bounds, a_binders, a_lengths, a_parameterCounts, a_typeCodes, a_typeLengths, a_instanceFunctions, a_nodeKinds, a_nodeLefts, a_nodeRights, a_nodeSizes, a_equationLefts, a_equationRights, a_stackLefts, a_stackRights, a_words, a_boundWords, a_cellFirsts, a_cellSeconds, a_closureTokens, a_closureWords, a_written) (nI (210 + p)) := by
  obtain ⟨X, hX⟩ := tk_drop ht (mt_sz (tau p)) p hp (Nat.le_refl _)
  obtain ⟨h1, h2, h3, h4⟩ := ht p hp
  have e : mt_encs [tau p] = mt_enc (tau p) := by simp [mt_encs]
  exact Exists.intro ((mt_enc (tau p)).length + 1) (x_bt7 hL hc h (mt_enc (tau p)).length [tau p] 0 p _ (fun t ht => by simp at ht; rw [ht]; exact h1) (by rw [e]; exact hX) (by rw [e]) rfl h3 (by omega) (by omega))
/-- list cells: their tails -/
theorem ce_list {nc nb nx nl nk i : Nat} {ty : Nat → mt_T} {cm lc : Nat → Nat} {bn bx bt bv cf cs ct cw ht tt hd tl ce : Nat → Int32} {a b : mt_T} (h : ce_ok ln P kN vl oc sp bd bi cod nc ty cm nb bn bx bt bv nx nl nk lc cf cs ct cw ht tt hd tl ce i) (e : ty i = .branch 3 a b) :
    1 ≤ cm i ∧ cm i < nx ∧ vv i ty cm a (ht i) (hd i) (cf (cm i)) ∧ lc i ≤ nk ∧ 1 ≤ lc i ∧ ((tt i = 2 ∧ cs (cm i) = 0 ∧ lc i = 1) ∨ ∃ j, j < i ∧ tt i = 3 ∧ tl i = nI j ∧ cs (cm i) = nI (cm j) ∧ ty j = .branch 3 a b ∧ lc i = lc j + 1) := by
  rcases h with ⟨a', b', c1, _⟩ | ⟨a', b', c1, c2, c3, c4, c5, c6, c7, c8⟩ | ⟨a', b', c1, _⟩
  · rw [c1] at e; injection e with y; omega
  · rw [c1] at e
    injection e with _ e1 e2
    subst e1 e2
    rcases c5 with ⟨_, y1, y2, y3⟩ | ⟨j, j1, j2, j3, j4, j5⟩
    · have := c7 y1
      exact ⟨c2, c3, c4, c6, by omega, Or.inl ⟨y1, y3, this⟩⟩
    · have j6 : tt i = 3 := by
        rcases j5 with ⟨y, _⟩ | ⟨_, y⟩ | ⟨y, _⟩
        · omega
        · exact y
        · omega
      have := c8 j j6 j1 j2
      exact ⟨c2, c3, c4, c6, by omega, Or.inr ⟨j, j1, j6, j2, j3, j4, this⟩⟩
  · rw [c1] at e; injection e with y; omega
theorem x_ce7 {post : Int32 → Prop} {nc nb nx nl nk : Nat} {ty : Nat → mt_T} {cm lc : Nat → Nat} {bn bx bt bv ct cw ht tt hd tl ce : Nat → Int32} {a b : mt_T} (hnx : nx ≤ 4000) (hcell : ∀ i, i < nc → ce_ok ln P kN vl oc sp bd bi cod nc ty cm nb bn bx bt bv nx nl nk lc a_cellFirsts a_cellSeconds ct cw ht tt hd tl ce i) :
    ∀ L i c fu, i < nc → ty i = .branch 3 a b → lc i = L → c + L ≤ 200 → L < fu → post (nI (c + L)) → wX_countElements_7 post f_saidPlace f_instanceCount f_nodeCount f_equationCount f_stackCount f_wordCount f_depth f_cellCount f_consCount f_closureCount f_stepCount f_runAnswer f_writtenCount a_kinds a_values a_spans a_bounds a_binders a_lengths a_parameterCounts a_typeCodes a_typeLengths a_instanceFunctions a_nodeKinds a_nodeLefts a_nodeRights a_nodeSizes a_equationLefts a_equationRights a_stackLefts a_stackRights a_words a_boundWords a_cellFirsts a_cellSeconds a_closureTokens a_closureWords a_written fu (nI c) (nI (cm i)) (nI c) := by
  intro L
  induction L with
  | zero =>
    intro i c fu hi e hl _ _ _
    obtain ⟨_, _, _, _, q5, _⟩ := ce_list (hcell i hi) e
    omega
  | succ L ih =>
    intro i c fu hi e hl hc hfu hp
    obtain ⟨fu, rfl⟩ : ∃ g, fu = g + 1 := ⟨fu - 1, by omega⟩
    obtain ⟨q1, q2, q3, q4, q5, q6⟩ := ce_list (hcell i hi) e
    refine br_f (nI_ge (b := 200) (by omega) (by omega)) (br_f (fun w => by have := (nI0 (n := cm i) (by omega)).mp w; omega) (nm_r (nI_1 c) (And.intro (pk_in (cm i) 4825 (by omega)) ?_)))
    rw [nI_clamp (n := cm i) (by omega)]
    rcases q6 with ⟨_, y2, y3⟩ | ⟨j, j1, _, _, j4, j5, j6⟩
    · have eL : L = 0 := by omega
      subst eL
      rw [y2]
      refine nm_e (nm_r (nI_1 c) ?_)
      obtain ⟨fu, rfl⟩ : ∃ g, fu = g + 1 := ⟨fu - 1, by omega⟩
      exact br_c (fun _ => hp) (fun _ => br_t rfl hp)
    · refine nm_r j4 (nm_r (nI_1 c) (ih j (c + 1) fu (by omega) j5 (by omega) (by omega) (by omega) ?_))
      rw [show c + 1 + L = c + (L + 1) by omega]; exact hp
theorem x_count {post : Int32 → Prop} {nc nb nx nl nk i : Nat} {ty : Nat → mt_T} {cm lc : Nat → Nat} {bn bx bt bv ct cw ht tt hd tl ce : Nat → Int32} {a b : mt_T} (hnx : nx ≤ 4000) (hnk : nk ≤ 200) (hcell : ∀ i, i < nc → ce_ok ln P kN vl oc sp bd bi cod nc ty cm nb bn bx bt bv nx nl nk lc a_cellFirsts a_cellSeconds ct cw ht tt hd tl ce i) (hi : i < nc) (e : ty i = .branch 3 a b) (hp : post (nI (lc i))) : wpX_countElements post (f_saidPlace, f_instanceCount, f_nodeCount, f_equationCount, f_stackCount, f_wordCount, f_depth, f_cellCount, f_consCount, f_closureCount, f_stepCount, f_runAnswer, f_writtenCount, a_kinds, a_values, a_spans, a_bounds, a_binders, a_lengths, a_parameterCounts, a_typeCodes, a_typeLengths, a_instanceFunctions, a_nodeKinds, a_nodeLefts, a_nodeRights, a_nodeSizes, a_equationLefts, a_equationRights, a_stackLefts, a_stackRights, a_words, a_boundWords, a_cellFirsts, a_cellSeconds, a_closureTokens, a_closureWords, a_written) (nI (cm i)) := by
  have := (ce_list (hcell i hi) e).2.2.2.1
  exact Exists.intro (lc i + 1 + 1) (x_ce7 hnx hcell (lc i) i 0 (lc i + 1 + 1) hi e rfl (by omega) (by omega) (by rw [Nat.zero_add]; exact hp))
theorem y_sz8 {post : Int32 → Prop} {nc nb nx nl nk : Nat} {ty : Nat → mt_T} {cm lc : Nat → Nat} {bn bx bt bv cf cs ct cw ht hd ce : Nat → Int32} {a b : mt_T} (hnc : nc ≤ 3000) (hcell : ∀ i, i < nc → ce_ok ln P kN vl oc sp bd bi cod nc ty cm nb bn bx bt bv nx nl nk lc cf cs ct cw ht ya_tailTag hd ya_tail ce i) :
    ∀ L i c fu, i < nc → ty i = .branch 3 a b → lc i = L → L < fu → post (nI (c + L)) → wY_size_8 post yf_place yf_points yf_names yf_textEnd yf_made yf_entry yf_waiting yf_values yf_bound yf_cells yf_conses yf_lams yf_steps yf_atWork yf_end yf_writtenCount ya_kind ya_up ya_turn ya_depth ya_value ya_below ya_length ya_parameters ya_codes ya_codeCount ya_form ya_colour ya_same ya_one ya_two ya_todo ya_numbered ya_text ya_ofFunction ya_codeEnd ya_instance ya_token ya_env ya_tag ya_cellEnv ya_boundNext ya_step ya_boundNumber ya_boundTag ya_headTag ya_tailTag ya_number ya_boundValue ya_head ya_tail ya_written fu (nI c) 3 (nI i) := by
  intro L
  induction L with
  | zero =>
    intro i c fu hi e hl _ _
    obtain ⟨_, _, _, _, q5, _⟩ := ce_list (hcell i hi) e
    omega
  | succ L ih =>
    intro i c fu hi e hl hfu hp
    obtain ⟨fu, rfl⟩ : ∃ g, fu = g + 1 := ⟨fu - 1, by omega⟩
    obtain ⟨q1, q2, q3, q4, q5, q6⟩ := ce_list (hcell i hi) e
    have ci : (nI i).toNatClampNeg = i := nI_clamp (by omega)
    have ii : vp_in (nI i) 3000 := pk_in i 3000 (by omega)
    refine br_t rfl (nm_r (nI_1 c) (And.intro ii ?_))
    rw [ci]
    rcases q6 with ⟨y1, y2, y3⟩ | ⟨j, j1, j2, j3, _, j5, j6⟩
    · have eL : L = 0 := by omega
      subst eL
      refine nm_r y1 (And.intro ii (nm_e ?_))
      obtain ⟨fu, rfl⟩ : ∃ g, fu = g + 1 := ⟨fu - 1, by omega⟩
      exact br_f (by decide) hp
    · refine nm_r j2 (And.intro ii (nm_r (e' := nI j) j3 (ih j (c + 1) fu (by omega) j5 (by omega) (by omega) ?_)))
      rw [show c + 1 + L = c + (L + 1) by omega]; exact hp
theorem y_size {post : Int32 → Prop} {nc nb nx nl nk i : Nat} {ty : Nat → mt_T} {cm lc : Nat → Nat} {bn bx bt bv cf cs ct cw ht hd ce : Nat → Int32} {a b : mt_T} (hnc : nc ≤ 3000) (hcell : ∀ i, i < nc → ce_ok ln P kN vl oc sp bd bi cod nc ty cm nb bn bx bt bv nx nl nk lc cf cs ct cw ht ya_tailTag hd ya_tail ce i) (hi : i < nc) (e : ty i = .branch 3 a b) (hp : post (nI (lc i))) : wpY_size post (yf_place, yf_points, yf_names, yf_textEnd, yf_made, yf_entry, yf_waiting, yf_values, yf_bound, yf_cells, yf_conses, yf_lams, yf_steps, yf_atWork, yf_end, yf_writtenCount, ya_kind, ya_up, ya_turn, ya_depth, ya_value, ya_below, ya_length, ya_parameters, ya_codes, ya_codeCount, ya_form, ya_colour, ya_same, ya_one, ya_two, ya_todo, ya_numbered, ya_text, ya_ofFunction, ya_codeEnd, ya_instance, ya_token, ya_env, ya_tag, ya_cellEnv, ya_boundNext, ya_step, ya_boundNumber, ya_boundTag, ya_headTag, ya_tailTag, ya_number, ya_boundValue, ya_head, ya_tail, ya_written) 3 (nI i) :=
  Exists.intro (lc i + 1 + 1) (y_sz8 hnc hcell (lc i) i 0 (lc i + 1 + 1) hi e rfl (by omega) (by rw [Nat.zero_add]; exact hp))

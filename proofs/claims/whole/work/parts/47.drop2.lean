variable {f_saidPlace f_instanceCount f_nodeCount f_equationCount f_stackCount f_wordCount f_depth f_cellCount f_consCount f_closureCount f_stepCount f_runAnswer f_writtenCount : Int32} {a_kinds a_values a_spans a_bounds a_binders a_lengths a_parameterCounts a_typeCodes a_typeLengths a_instanceFunctions a_nodeKinds a_nodeLefts a_nodeRights a_nodeSizes a_equationLefts a_equationRights a_stackLefts a_stackRights a_words a_boundWords a_cellFirsts a_cellSeconds a_closureTokens a_closureWords a_written : Nat → Int32}
variable {yf_place yf_points yf_names yf_textEnd yf_made yf_entry yf_waiting yf_values yf_bound yf_cells yf_conses yf_lams yf_steps yf_atWork yf_end yf_writtenCount : Int32} {ya_kind ya_up ya_turn ya_depth ya_value ya_below ya_length ya_parameters ya_codes ya_codeCount ya_form ya_colour ya_same ya_one ya_two ya_todo ya_numbered ya_text ya_ofFunction ya_codeEnd ya_instance ya_token ya_env ya_tag ya_cellEnv ya_boundNext ya_step ya_boundNumber ya_boundTag ya_headTag ya_tailTag ya_number ya_boundValue ya_head ya_tail ya_written : Nat → Int32}
theorem dpr_le {kN vN : Nat → Nat → Nat} {ln n0 : Nat → Nat} (h : ∀ g, g < 5 → ln g ≤ n0 g) (k : Nat) : ∀ g, g < 5 → dpr kN vN ln k g ≤ n0 g := by
  intro g hg
  rcases dpr_or (kN := kN) (vN := vN) (ln := ln) k g with z | z
  · rw [z]; exact h g hg
  · rw [z]; omega
theorem dpn_le {kN vN : Nat → Nat → Nat} {ln n0 : Nat → Nat} (h : ∀ g, g < 5 → ln g ≤ n0 g) (k : Nat) : ∀ g, g < 5 → dpn kN vN ln k g ≤ n0 g := by
  intro g hg
  rcases dpn_or (kN := kN) (vN := vN) (ln := ln) k g with z | z
  · rw [z]; exact h g hg
  · rw [z]; omega
theorem x_db16 {post : SX → Prop} {J9 : JX} {x2 : Int32} {kN vN : Nat → Nat → Nat} {n0 ln : Nat → Nat} (hx : xl_ok a_kinds a_values kN vN n0) (h0 : ∀ g, g < 5 → ln g ≤ n0 g)
    (hJ : ∀ le : Nat → Int32, (∀ h, h < 5 → le h = nI (dpr kN vN ln 5 h)) → (∀ j, 5 ≤ j → le j = a_lengths j) → J9 (x2 + 1) a_kinds a_values a_spans a_bounds a_binders le a_parameterCounts a_typeCodes a_typeLengths a_instanceFunctions a_nodeKinds a_nodeLefts a_nodeRights a_nodeSizes a_equationLefts a_equationRights a_stackLefts a_stackRights a_words a_boundWords a_cellFirsts a_cellSeconds a_closureTokens a_closureWords a_written) :
    ∀ q g fu (le : Nat → Int32), g + q = 5 → q < fu → (∀ h, h < 5 → le h = nI (dpr kN vN ln g h)) → (∀ j, 5 ≤ j → le j = a_lengths j) → wX_dropBody_16 post J9 x2 f_saidPlace f_instanceCount f_nodeCount f_equationCount f_stackCount f_wordCount f_depth f_cellCount f_consCount f_closureCount f_stepCount f_runAnswer f_writtenCount fu (nI g) a_kinds a_values a_spans a_bounds a_binders le a_parameterCounts a_typeCodes a_typeLengths a_instanceFunctions a_nodeKinds a_nodeLefts a_nodeRights a_nodeSizes a_equationLefts a_equationRights a_stackLefts a_stackRights a_words a_boundWords a_cellFirsts a_cellSeconds a_closureTokens a_closureWords a_written := by
  intro q
  induction q with
  | zero =>
    intro g fu le hg hfu h1 h2
    obtain ⟨fu, rfl⟩ : ∃ g, fu = g + 1 := ⟨fu - 1, by omega⟩
    have e : g = 5 := by omega
    subst e
    exact br_t (nI_le (a := 5) (by omega) (by omega)) (nm_e (hJ le h1 h2))
  | succ q ih =>
    intro g fu le hg hfu h1 h2
    obtain ⟨fu, rfl⟩ : ∃ g, fu = g + 1 := ⟨fu - 1, by omega⟩
    have hg5 : g < 5 := by omega
    refine br_f (nI_ge (b := 5) (by omega) (by omega)) ?_
    refine x_callsMissing (a_lengths := le) hg5 hx (fun h hh => ⟨h1 h hh, dpr_le h0 g h hh⟩) (fun hl => br_f n1_0 (And.intro (pk_in g 11 (by omega)) (nm_r (e' := upd le g 0) (by rw [nI_clamp (by omega)]) (nm_r (nI_1 g) (ih (g + 1) fu _ (by omega) (by omega) (fun h hh => ?_) (fun j hj => ?_)))))) (fun hl => br_t rfl (nm_r (nI_1 g) (ih (g + 1) fu le (by omega) (by omega) (fun h hh => ?_) h2)))
    · rw [dpr, dp1_t hl]
      by_cases z : h = g
      · rw [z, pk_us, uN_s]; rfl
      · rw [pk_un z, uN_n z]; exact h1 h hh
    · rw [pk_un (by omega)]; exact h2 j hj
    · rw [dpr, dp1_f hl]; exact h1 h hh
theorem x_db9 {post : SX → Prop} {kN vN : Nat → Nat → Nat} {n0 ln : Nat → Nat} (hx : xl_ok a_kinds a_values kN vN n0) (h0 : ∀ g, g < 5 → ln g ≤ n0 g)
    (hP : ∀ le : Nat → Int32, (∀ h, h < 5 → le h = nI (dpn kN vN ln 5 h)) → (∀ j, 5 ≤ j → le j = a_lengths j) → post (f_saidPlace, f_instanceCount, f_nodeCount, f_equationCount, f_stackCount, f_wordCount, f_depth, f_cellCount, f_consCount, f_closureCount, f_stepCount, f_runAnswer, f_writtenCount, a_kinds, a_values, a_spans, a_bounds, a_binders, le, a_parameterCounts, a_typeCodes, a_typeLengths, a_instanceFunctions, a_nodeKinds, a_nodeLefts, a_nodeRights, a_nodeSizes, a_equationLefts, a_equationRights, a_stackLefts, a_stackRights, a_words, a_boundWords, a_cellFirsts, a_cellSeconds, a_closureTokens, a_closureWords, a_written)) :
    ∀ q r fu (le : Nat → Int32), r + q = 5 → q < fu → (∀ h, h < 5 → le h = nI (dpn kN vN ln r h)) → (∀ j, 5 ≤ j → le j = a_lengths j) → wX_dropBody_9 post f_saidPlace f_instanceCount f_nodeCount f_equationCount f_stackCount f_wordCount f_depth f_cellCount f_consCount f_closureCount f_stepCount f_runAnswer f_writtenCount fu (nI r) a_kinds a_values a_spans a_bounds a_binders le a_parameterCounts a_typeCodes a_typeLengths a_instanceFunctions a_nodeKinds a_nodeLefts a_nodeRights a_nodeSizes a_equationLefts a_equationRights a_stackLefts a_stackRights a_words a_boundWords a_cellFirsts a_cellSeconds a_closureTokens a_closureWords a_written := by
  intro q
  induction q with
  | zero =>
    intro g fu le hg hfu h1 h2
    obtain ⟨fu, rfl⟩ : ∃ g, fu = g + 1 := ⟨fu - 1, by omega⟩
    have e : g = 5 := by omega
    subst e
    exact br_t (nI_le (a := 5) (by omega) (by omega)) (hP le h1 h2)
  | succ q ih =>
    intro r fu le hg hfu h1 h2
    obtain ⟨fu, rfl⟩ : ∃ g, fu = g + 1 := ⟨fu - 1, by omega⟩
    refine br_f (nI_ge (b := 5) (by omega) (by omega)) (Exists.intro 6 ?_)
    refine x_db16 (a_lengths := le) (J9 := wX_dropBody_9 post f_saidPlace f_instanceCount f_nodeCount f_equationCount f_stackCount f_wordCount f_depth f_cellCount f_consCount f_closureCount f_stepCount f_runAnswer f_writtenCount fu) (ln := dpn kN vN ln r) hx (dpn_le h0 r) (fun le' k1 k2 => ?_) 5 0 6 le (by omega) (by omega) h1 (fun _ _ => rfl)
    rw [nI_1]
    exact ih (r + 1) fu le' (by omega) (by omega) k1 (fun j hj => (k2 j hj).trans (h2 j hj))
theorem x_dropBody {post : SX → Prop} {f : Nat} {kN vN : Nat → Nat → Nat} {ln : Nat → Nat} (hf : f < 5) (hx : xl_ok a_kinds a_values kN vN ln) (hl : ∀ h, h < 5 → a_lengths h = nI (ln h))
    (hP : ∀ le : Nat → Int32, (∀ h, h < 5 → le h = nI (dpn kN vN (updN ln f 0) 5 h)) → (∀ j, 5 ≤ j → le j = a_lengths j) → post (f_saidPlace, f_instanceCount, f_nodeCount, f_equationCount, f_stackCount, f_wordCount, f_depth, f_cellCount, f_consCount, f_closureCount, f_stepCount, f_runAnswer, f_writtenCount, a_kinds, a_values, a_spans, a_bounds, a_binders, le, a_parameterCounts, a_typeCodes, a_typeLengths, a_instanceFunctions, a_nodeKinds, a_nodeLefts, a_nodeRights, a_nodeSizes, a_equationLefts, a_equationRights, a_stackLefts, a_stackRights, a_words, a_boundWords, a_cellFirsts, a_cellSeconds, a_closureTokens, a_closureWords, a_written)) : wpX_dropBody post (f_saidPlace, f_instanceCount, f_nodeCount, f_equationCount, f_stackCount, f_wordCount, f_depth, f_cellCount, f_consCount, f_closureCount, f_stepCount, f_runAnswer, f_writtenCount, a_kinds, a_values, a_spans, a_bounds, a_binders, a_lengths, a_parameterCounts, a_typeCodes, a_typeLengths, a_instanceFunctions, a_nodeKinds, a_nodeLefts, a_nodeRights, a_nodeSizes, a_equationLefts, a_equationRights, a_stackLefts, a_stackRights, a_words, a_boundWords, a_cellFirsts, a_cellSeconds, a_closureTokens, a_closureWords, a_written) (nI f) := by
  refine And.intro (pk_in f 11 (by omega)) (nm_r (e' := upd a_lengths f 0) (by rw [nI_clamp (by omega)]) (Exists.intro 6 ?_))
  refine x_db9 (a_lengths := upd a_lengths f 0) (ln := updN ln f 0) hx (fun g hg => ?_) (fun le k1 k2 => hP le k1 (fun j hj => ?_)) 5 0 6 _ (by omega) (by omega) (fun h hh => ?_) (fun _ _ => rfl)
  · by_cases z : g = f
    · rw [z, uN_s]; omega
    · rw [uN_n z]; omega
  · rw [k2 j hj, pk_un (by omega)]
  · show upd a_lengths f 0 h = nI (updN ln f 0 h)
    by_cases z : h = f
    · rw [z, pk_us, uN_s]; rfl
    · rw [pk_un z, uN_n z]; exact hl h hh
theorem y_df35 {post : Int32 → SY → Prop} {J27 : JY} {x1 x2 x3 : Int32} {kN vN : Nat → Nat → Nat} {n0 ln : Nat → Nat} (hx : yl_ok ya_kind ya_value kN vN n0) (h0 : ∀ g, g < 5 → ln g ≤ n0 g)
    (hJ : ∀ le : Nat → Int32, (∀ h, h < 5 → le h = nI (dpr kN vN ln 5 h)) → (∀ j, 5 ≤ j → le j = ya_length j) → J27 (x3 + 1) ya_kind ya_up ya_turn ya_depth ya_value ya_below le ya_parameters ya_codes ya_codeCount ya_form ya_colour ya_same ya_one ya_two ya_todo ya_numbered ya_text ya_ofFunction ya_codeEnd ya_instance ya_token ya_env ya_tag ya_cellEnv ya_boundNext ya_step ya_boundNumber ya_boundTag ya_headTag ya_tailTag ya_number ya_boundValue ya_head ya_tail ya_written) :
    ∀ q g fu (le : Nat → Int32), g + q = 5 → q < fu → (∀ h, h < 5 → le h = nI (dpr kN vN ln g h)) → (∀ j, 5 ≤ j → le j = ya_length j) → wY_define_35 post J27 x1 x2 x3 yf_place yf_points yf_names yf_textEnd yf_made yf_entry yf_waiting yf_values yf_bound yf_cells yf_conses yf_lams yf_steps yf_atWork yf_end yf_writtenCount fu (nI g) ya_kind ya_up ya_turn ya_depth ya_value ya_below le ya_parameters ya_codes ya_codeCount ya_form ya_colour ya_same ya_one ya_two ya_todo ya_numbered ya_text ya_ofFunction ya_codeEnd ya_instance ya_token ya_env ya_tag ya_cellEnv ya_boundNext ya_step ya_boundNumber ya_boundTag ya_headTag ya_tailTag ya_number ya_boundValue ya_head ya_tail ya_written := by
  intro q
  induction q with
  | zero =>
    intro g fu le hg hfu h1 h2
    obtain ⟨fu, rfl⟩ : ∃ g, fu = g + 1 := ⟨fu - 1, by omega⟩
    have e : g = 5 := by omega
    subst e
    exact br_t (nI_le (a := 5) (by omega) (by omega)) (nm_e (hJ le h1 h2))
  | succ q ih =>
    intro g fu le hg hfu h1 h2
    obtain ⟨fu, rfl⟩ : ∃ g, fu = g + 1 := ⟨fu - 1, by omega⟩
    have hg5 : g < 5 := by omega
    refine br_f (nI_ge (b := 5) (by omega) (by omega)) ?_
    refine y_lost (ya_length := le) hg5 hx (fun h hh => ⟨h1 h hh, dpr_le h0 g h hh⟩) (fun hl => br_f n1_0 (And.intro (pk_in g 11 (by omega)) (nm_r (e' := upd le g 0) (by rw [nI_clamp (by omega)]; exact congrArg _ (nr_b0 (n := 0) (by omega))) (nm_r (nI_1 g) (ih (g + 1) fu _ (by omega) (by omega) (fun h hh => ?_) (fun j hj => ?_)))))) (fun hl => br_t rfl (nm_r (nI_1 g) (ih (g + 1) fu le (by omega) (by omega) (fun h hh => ?_) h2)))
    · rw [dpr, dp1_t hl]
      by_cases z : h = g
      · rw [z, pk_us, uN_s]; rfl
      · rw [pk_un z, uN_n z]; exact h1 h hh
    · rw [pk_un (by omega)]; exact h2 j hj
    · rw [dpr, dp1_f hl]; exact h1 h hh
theorem y_df27 {post : Int32 → SY → Prop} {x1 x2 : Int32} {kN vN : Nat → Nat → Nat} {n0 ln : Nat → Nat} (hx : yl_ok ya_kind ya_value kN vN n0) (h0 : ∀ g, g < 5 → ln g ≤ n0 g)
    (hP : ∀ (fu : Nat) (le : Nat → Int32), (∀ h, h < 5 → le h = nI (dpn kN vN ln 5 h)) → (∀ j, 5 ≤ j → le j = ya_length j) → wY_define_27 post x1 x2 yf_place yf_points yf_names yf_textEnd yf_made yf_entry yf_waiting yf_values yf_bound yf_cells yf_conses yf_lams yf_steps yf_atWork yf_end yf_writtenCount (fu + 1) (nI 5) ya_kind ya_up ya_turn ya_depth ya_value ya_below le ya_parameters ya_codes ya_codeCount ya_form ya_colour ya_same ya_one ya_two ya_todo ya_numbered ya_text ya_ofFunction ya_codeEnd ya_instance ya_token ya_env ya_tag ya_cellEnv ya_boundNext ya_step ya_boundNumber ya_boundTag ya_headTag ya_tailTag ya_number ya_boundValue ya_head ya_tail ya_written) :
    ∀ q r fu (le : Nat → Int32), r + q = 5 → q < fu → (∀ h, h < 5 → le h = nI (dpn kN vN ln r h)) → (∀ j, 5 ≤ j → le j = ya_length j) → wY_define_27 post x1 x2 yf_place yf_points yf_names yf_textEnd yf_made yf_entry yf_waiting yf_values yf_bound yf_cells yf_conses yf_lams yf_steps yf_atWork yf_end yf_writtenCount fu (nI r) ya_kind ya_up ya_turn ya_depth ya_value ya_below le ya_parameters ya_codes ya_codeCount ya_form ya_colour ya_same ya_one ya_two ya_todo ya_numbered ya_text ya_ofFunction ya_codeEnd ya_instance ya_token ya_env ya_tag ya_cellEnv ya_boundNext ya_step ya_boundNumber ya_boundTag ya_headTag ya_tailTag ya_number ya_boundValue ya_head ya_tail ya_written := by
  intro q
  induction q with
  | zero =>
    intro g fu le hg hfu h1 h2
    obtain ⟨fu, rfl⟩ : ∃ g, fu = g + 1 := ⟨fu - 1, by omega⟩
    have e : g = 5 := by omega
    subst e
    exact hP fu le h1 h2
  | succ q ih =>
    intro r fu le hg hfu h1 h2
    obtain ⟨fu, rfl⟩ : ∃ g, fu = g + 1 := ⟨fu - 1, by omega⟩
    refine br_f (nI_ge (b := 5) (by omega) (by omega)) (Exists.intro 6 ?_)
    refine y_df35 (ya_length := le) (J27 := wY_define_27 post x1 x2 yf_place yf_points yf_names yf_textEnd yf_made yf_entry yf_waiting yf_values yf_bound yf_cells yf_conses yf_lams yf_steps yf_atWork yf_end yf_writtenCount fu) (ln := dpn kN vN ln r) hx (dpn_le h0 r) (fun le' k1 k2 => ?_) 5 0 6 le (by omega) (by omega) h1 (fun _ _ => rfl)
    rw [nI_1]
    exact ih (r + 1) fu le' (by omega) (by omega) k1 (fun j hj => (k2 j hj).trans (h2 j hj))
/-- the draft becomes the body of f -/
theorem x_td2 {post : SX → Prop} {f n : Nat} {p1 : Int32} (hf : f < 5) (hn : n ≤ 24) (hl : a_lengths 10 = nI n)
    (hP : ∀ ki va : Nat → Int32, (∀ t, t < n → ki (f * 24 + t) = a_kinds (240 + t) ∧ va (f * 24 + t) = a_values (240 + t)) → (∀ j, j < f * 24 ∨ f * 24 + 24 ≤ j → ki j = a_kinds j ∧ va j = a_values j) →
      post (f_saidPlace, f_instanceCount, f_nodeCount, f_equationCount, f_stackCount, f_wordCount, f_depth, f_cellCount, f_consCount, f_closureCount, f_stepCount, f_runAnswer, f_writtenCount, ki, va, a_spans, a_bounds, a_binders, (upd (upd a_lengths f (nI n)) 10 0), (upd a_parameterCounts f p1), a_typeCodes, a_typeLengths, a_instanceFunctions, a_nodeKinds, a_nodeLefts, a_nodeRights, a_nodeSizes, a_equationLefts, a_equationRights, a_stackLefts, a_stackRights, a_words, a_boundWords, a_cellFirsts, a_cellSeconds, a_closureTokens, a_closureWords, a_written)) :
    ∀ q t fu (ki va : Nat → Int32), t + q = n → q < fu → (∀ s, s < t → ki (f * 24 + s) = a_kinds (240 + s) ∧ va (f * 24 + s) = a_values (240 + s)) → (∀ j, j < f * 24 ∨ f * 24 + 24 ≤ j → ki j = a_kinds j ∧ va j = a_values j) →
      wX_takeDraft_2 post (nI f) p1 f_saidPlace f_instanceCount f_nodeCount f_equationCount f_stackCount f_wordCount f_depth f_cellCount f_consCount f_closureCount f_stepCount f_runAnswer f_writtenCount fu (nI t) ki va a_spans a_bounds a_binders a_lengths a_parameterCounts a_typeCodes a_typeLengths a_instanceFunctions a_nodeKinds a_nodeLefts a_nodeRights a_nodeSizes a_equationLefts a_equationRights a_stackLefts a_stackRights a_words a_boundWords a_cellFirsts a_cellSeconds a_closureTokens a_closureWords a_written := by
  intro q
  induction q with
  | zero =>
    intro t fu ki va ht hfu h1 h2
    obtain ⟨fu, rfl⟩ : ∃ g, fu = g + 1 := ⟨fu - 1, by omega⟩
    have e : t = n := by omega
    subst e
    refine br_t (by rw [hl]; exact nI_le (Nat.le_refl _) (by omega)) (And.intro (pk_in f 11 (by omega)) (nm_r (e' := upd a_lengths f (nI t)) (by rw [nI_clamp (by omega), hl]) (And.intro (pk_in f 11 (by omega)) (nm_r (e' := upd a_parameterCounts f p1) (by rw [nI_clamp (by omega)]) (nm_e (hP ki va h1 h2))))))
  | succ q ih =>
    intro t fu ki va ht hfu h1 h2
    obtain ⟨fu, rfl⟩ : ∃ g, fu = g + 1 := ⟨fu - 1, by omega⟩
    have e24 := ix_24 f t
    have e240 : (240 : Int32) + nI t = nI (240 + t) := nI_add 240 t
    have c1 : (nI (f * 24 + t)).toNatClampNeg = f * 24 + t := nI_clamp (by omega)
    have c2 : (nI (240 + t)).toNatClampNeg = 240 + t := nI_clamp (by omega)
    refine br_f (by rw [hl]; exact nI_ge (by omega) (by omega)) ?_
    refine And.intro (pk_in (240 + t) 264 (by omega) e240) (And.intro (pk_in (f * 24 + t) 264 (by omega) e24) (nm_r (e' := upd ki (f * 24 + t) (a_kinds (240 + t))) (by rw [e24, e240, c1, c2, (h2 (240 + t) (by omega)).1]) (And.intro (pk_in (240 + t) 264 (by omega) e240) (And.intro (pk_in (f * 24 + t) 264 (by omega) e24) (nm_r (e' := upd va (f * 24 + t) (a_values (240 + t))) (by rw [e24, e240, c1, c2, (h2 (240 + t) (by omega)).2]) (nm_r (nI_1 t) ?_))))))
    refine ih (t + 1) fu _ _ (by omega) (by omega) (fun s hs => ?_) (fun j hj => ?_)
    · by_cases z : s = t
      · subst z; exact ⟨pk_us, pk_us⟩
      · rw [pk_un (by omega), pk_un (by omega)]; exact h1 s (by omega)
    · rw [pk_un (by omega), pk_un (by omega)]; exact h2 j hj
theorem x_takeDraft {post : SX → Prop} {f n : Nat} {p1 : Int32} (hf : f < 5) (hn : n ≤ 24) (hl : a_lengths 10 = nI n)
    (hP : ∀ ki va : Nat → Int32, (∀ t, t < n → ki (f * 24 + t) = a_kinds (240 + t) ∧ va (f * 24 + t) = a_values (240 + t)) → (∀ j, j < f * 24 ∨ f * 24 + 24 ≤ j → ki j = a_kinds j ∧ va j = a_values j) →
      post (f_saidPlace, f_instanceCount, f_nodeCount, f_equationCount, f_stackCount, f_wordCount, f_depth, f_cellCount, f_consCount, f_closureCount, f_stepCount, f_runAnswer, f_writtenCount, ki, va, a_spans, a_bounds, a_binders, (upd (upd a_lengths f (nI n)) 10 0), (upd a_parameterCounts f p1), a_typeCodes, a_typeLengths, a_instanceFunctions, a_nodeKinds, a_nodeLefts, a_nodeRights, a_nodeSizes, a_equationLefts, a_equationRights, a_stackLefts, a_stackRights, a_words, a_boundWords, a_cellFirsts, a_cellSeconds, a_closureTokens, a_closureWords, a_written)) : wpX_takeDraft post (f_saidPlace, f_instanceCount, f_nodeCount, f_equationCount, f_stackCount, f_wordCount, f_depth, f_cellCount, f_consCount, f_closureCount, f_stepCount, f_runAnswer, f_writtenCount, a_kinds, a_values, a_spans, a_bounds, a_binders, a_lengths, a_parameterCounts, a_typeCodes, a_typeLengths, a_instanceFunctions, a_nodeKinds, a_nodeLefts, a_nodeRights, a_nodeSizes, a_equationLefts, a_equationRights, a_stackLefts, a_stackRights, a_words, a_boundWords, a_cellFirsts, a_cellSeconds, a_closureTokens, a_closureWords, a_written) (nI f) p1 :=
  Exists.intro (n + 1) (x_td2 hf hn hl hP n 0 (n + 1) a_kinds a_values (by omega) (by omega) (fun s hs => by omega) (fun _ _ => ⟨rfl, rfl⟩))

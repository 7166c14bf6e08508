variable {f_saidPlace f_instanceCount f_nodeCount f_equationCount f_stackCount f_wordCount f_depth f_cellCount f_consCount f_closureCount f_stepCount f_runAnswer f_writtenCount : Int32} {a_kinds a_values a_spans a_bounds a_binders a_lengths a_parameterCounts a_typeCodes a_typeLengths a_instanceFunctions a_nodeKinds a_nodeLefts a_nodeRights a_nodeSizes a_equationLefts a_equationRights a_stackLefts a_stackRights a_words a_boundWords a_cellFirsts a_cellSeconds a_closureTokens a_closureWords a_written : Nat → Int32}
variable {yf_place yf_points yf_names yf_textEnd yf_made yf_entry yf_waiting yf_values yf_bound yf_cells yf_conses yf_lams yf_steps yf_atWork yf_end yf_writtenCount : Int32} {ya_kind ya_up ya_turn ya_depth ya_value ya_below ya_length ya_parameters ya_codes ya_codeCount ya_form ya_colour ya_same ya_one ya_two ya_todo ya_numbered ya_text ya_ofFunction ya_codeEnd ya_instance ya_token ya_env ya_tag ya_cellEnv ya_boundNext ya_step ya_boundNumber ya_boundTag ya_headTag ya_tailTag ya_number ya_boundValue ya_head ya_tail ya_written : Nat → Int32}
section df2
variable {f P n : Nat} {ln Pg ln1 : Nat → Nat} {kN : Nat → Nat → Nat} {vl : Nat → Nat → Int32} {oc sp bd bi : Nat → Nat → Nat} {cod : Nat → List Nat} {dk : Nat → Nat} {dv : Nat → Int32}
theorem lib_xl (hlib : lib ln Pg kN vl oc sp bd bi cod) (hlx : lx_ok ln Pg kN vl sp bd bi cod a_kinds a_values a_spans a_bounds a_binders a_lengths a_parameterCounts a_typeCodes a_typeLengths) : xl_ok a_kinds a_values kN (vnf vl) ln := by
  intro g hg
  obtain ⟨x1, x2, x3⟩ := hlx g hg
  refine ⟨x2, fun t ht => ?_⟩
  have hl : ln g ≠ 0 := by omega
  obtain ⟨y1, y2, y3, _⟩ := (x3 hl).2.1 t ht
  refine ⟨y1, ((hlib g hg hl).1.2.2.2.2 t ht).1, fun z => ?_⟩
  obtain ⟨h, h1, h2, _⟩ := (hlib g hg hl).2.2.2.2.2.1 t ht z
  unfold vnf
  rw [y2, h2, nI_clamp (by omega)]
  exact ⟨h1, rfl⟩
theorem lib_yl (hlib : lib ln Pg kN vl oc sp bd bi cod) (h24 : ∀ g, g < 5 → ln g ≤ 24) (hly : ly_ok ln Pg kN vl oc sp bd cod ya_kind ya_value ya_up ya_turn ya_depth ya_below ya_length ya_parameters ya_codes ya_codeCount) : yl_ok ya_kind ya_value kN (vnf vl) ln := by
  intro g hg
  obtain ⟨x1, x3⟩ := hly g hg
  refine ⟨h24 g hg, fun t ht => ?_⟩
  have hl : ln g ≠ 0 := by omega
  obtain ⟨y1, y2, _⟩ := (x3 hl).2.1 t ht
  refine ⟨y1, ((hlib g hg hl).1.2.2.2.2 t ht).1, fun z => ?_⟩
  obtain ⟨h, h1, h2, _⟩ := (hlib g hg hl).2.2.2.2.2.1 t ht z
  unfold vnf
  rw [y2, h2, nI_clamp (by omega)]
  exact ⟨h1, rfl⟩
theorem y_def_all {post : Int32 → SY → Prop} {s b i : Nat → Nat} {G : Prop} (hf : f < 5) (hP2 : P ≤ 2) (hlib : lib ln Pg kN vl oc sp bd bi cod) (h24 : ∀ g, g < 5 → ln g ≤ 24) (hly : ly_ok ln Pg kN vl oc sp bd cod ya_kind ya_value ya_up ya_turn ya_depth ya_below ya_length ya_parameters ya_codes ya_codeCount)
    (hln1 : ln1 = dpn kN (vnf vl) (updN ln f 0) 5) (hl5 : ya_length 5 = nI n) (hyt : yt_ok n ya_kind ya_value dk dv)
    (hG : G → bw_is n (ocf f P ln1 Pg dk dv) s ∧ tr_ok n dk (ocf f P ln1 Pg dk dv) s b i ∧ (∀ s, s < n → b s ≤ 100) ∧ b 0 = P) (hGi : (∀ s, s < n → aw (ocf f P ln1 Pg dk dv) s ≠ 0) → aw (ocf f P ln1 Pg dk dv) n = 0 → G)
    (hS : ∀ t le up tu de be td, (t < n ∧ aw (ocf f P ln1 Pg dk dv) t = 0 ∧ (∀ s, s < t → aw (ocf f P ln1 Pg dk dv) s ≠ 0)) ∨ (t = n ∧ (∀ s, s < n → aw (ocf f P ln1 Pg dk dv) s ≠ 0) ∧ aw (ocf f P ln1 Pg dk dv) n ≠ 0) → (∀ h, h < 5 → le h = nI (ln1 h)) → (∀ j, 5 ≤ j → le j = ya_length j) → yr_ok ya_up ya_turn ya_depth ya_below up tu de be →
      post 1 ((nI t), yf_points, yf_names, yf_textEnd, yf_made, yf_entry, yf_waiting, yf_values, yf_bound, yf_cells, yf_conses, yf_lams, yf_steps, yf_atWork, yf_end, yf_writtenCount, ya_kind, up, tu, de, ya_value, be, (upd le 5 0), (upd ya_parameters 5 (nI P)), ya_codes, ya_codeCount, ya_form, ya_colour, ya_same, ya_one, ya_two, td, ya_numbered, ya_text, ya_ofFunction, ya_codeEnd, ya_instance, ya_token, ya_env, ya_tag, ya_cellEnv, ya_boundNext, ya_step, ya_boundNumber, ya_boundTag, ya_headTag, ya_tailTag, ya_number, ya_boundValue, ya_head, ya_tail, ya_written))
    (hU : ∀ t le up tu de be td, (∀ s, s < n → aw (ocf f P ln1 Pg dk dv) s ≠ 0) → aw (ocf f P ln1 Pg dk dv) n = 0 → (∀ h, h < 5 → le h = nI (ln1 h)) → (∀ j, 5 ≤ j → le j = ya_length j) → yr_ok ya_up ya_turn ya_depth ya_below up tu de be → t < n → ub b dk dv (fun g => g ≠ f ∧ ln1 g = 0) t → (∀ s, s < t → ¬ ub b dk dv (fun g => g ≠ f ∧ ln1 g = 0) s) →
      post 2 ((nI t), yf_points, yf_names, yf_textEnd, yf_made, yf_entry, yf_waiting, yf_values, yf_bound, yf_cells, yf_conses, yf_lams, yf_steps, yf_atWork, yf_end, yf_writtenCount, ya_kind, up, tu, de, ya_value, be, (upd le 5 0), (upd ya_parameters 5 (nI P)), ya_codes, ya_codeCount, ya_form, ya_colour, ya_same, ya_one, ya_two, td, ya_numbered, ya_text, ya_ofFunction, ya_codeEnd, ya_instance, ya_token, ya_env, ya_tag, ya_cellEnv, ya_boundNext, ya_step, ya_boundNumber, ya_boundTag, ya_headTag, ya_tailTag, ya_number, ya_boundValue, ya_head, ya_tail, ya_written))
    (hR : ∀ le up tu de be, (∀ h, h < 5 → le h = nI (ln1 h)) → (∀ j, 5 ≤ j → le j = ya_length j) → yr_ok ya_up ya_turn ya_depth ya_below up tu de be → G → aw (ocf f P ln1 Pg dk dv) n = 0 → (∀ s, s < n → aw (ocf f P ln1 Pg dk dv) s ≠ 0) → (∀ s, s < n → ¬ ub b dk dv (fun g => g ≠ f ∧ ln1 g = 0) s) → bd_ok n dk dv (ocf f P ln1 Pg dk dv) s b i → yb_ok 5 n ya_kind ya_value up tu de be dk dv (ocf f P ln1 Pg dk dv) s b →
      (∀ t N fo sa on tw co td nu, t < n → (t = 0 ∨ ∃ r, (∀ n, mt_wf (r n)) ∧ S_t (fun _ => True) f dk dv (ocf f P ln1 Pg dk dv) s b i cod t r) → (∀ r, (∀ n, mt_wf (r n)) → ¬ S_t (fun _ => True) f dk dv (ocf f P ln1 Pg dk dv) s b i cod (t + 1) r) →
        post 3 ((nI t), N, yf_names, yf_textEnd, yf_made, yf_entry, yf_waiting, yf_values, yf_bound, yf_cells, yf_conses, yf_lams, yf_steps, yf_atWork, yf_end, yf_writtenCount, ya_kind, up, tu, de, ya_value, be, (upd le 5 0), (upd ya_parameters 5 (nI P)), ya_codes, ya_codeCount, fo, co, sa, on, tw, td, nu, ya_text, ya_ofFunction, ya_codeEnd, ya_instance, ya_token, ya_env, ya_tag, ya_cellEnv, ya_boundNext, ya_step, ya_boundNumber, ya_boundTag, ya_headTag, ya_tailTag, ya_number, ya_boundValue, ya_head, ya_tail, ya_written)) ∧
      (∀ (N : Nat) (Sol : (Nat → mt_T) → Prop) (c : Nat → mt_T), 74 ≤ N → mg_is N Sol c → pj_is 74 Sol (S_t (fun _ => True) f dk dv (ocf f P ln1 Pg dk dv) s b i cod n) → (∃ p, p < 74 ∧ 14 < (mt_enc (c p)).length) → ∀ pt te nm fo sa on tw co td nu tx,
        post 4 ((-1), pt, nm, te, yf_made, yf_entry, yf_waiting, yf_values, yf_bound, yf_cells, yf_conses, yf_lams, yf_steps, yf_atWork, yf_end, yf_writtenCount, ya_kind, up, tu, de, ya_value, be, (upd le 5 0), (upd ya_parameters 5 (nI P)), ya_codes, ya_codeCount, fo, co, sa, on, tw, td, nu, tx, ya_ofFunction, ya_codeEnd, ya_instance, ya_token, ya_env, ya_tag, ya_cellEnv, ya_boundNext, ya_step, ya_boundNumber, ya_boundTag, ya_headTag, ya_tailTag, ya_number, ya_boundValue, ya_head, ya_tail, ya_written)) ∧
      (∀ (N : Nat) (Sol : (Nat → mt_T) → Prop) (c : Nat → mt_T), 74 ≤ N → mg_is N Sol c → pj_is 74 Sol (S_t (fun _ => True) f dk dv (ocf f P ln1 Pg dk dv) s b i cod n) → (∀ p, p < 74 → yl_in n P p → (mt_enc (c p)).length ≤ 14) → ∀ pt te nm fo sa on tw co td nu tx ki va up' tu' de' be' cs,
        yk_ok 5 f 24 ya_kind ya_value up tu de be ki va up' tu' de' be' → (∀ i, i < (mt_encs ((ow_st P).map c)).length → cs (48 * f + i) = nI ((cn_go [] (mt_encs ((ow_st P).map c))).getD i 0)) → (∀ j, j < 48 * f ∨ 48 * f + 48 ≤ j → cs j = ya_codes j) →
        post 0 ((-1), pt, nm, te, yf_made, yf_entry, yf_waiting, yf_values, yf_bound, yf_cells, yf_conses, yf_lams, yf_steps, yf_atWork, yf_end, yf_writtenCount, ki, up', tu', de', va, be', (upd (upd le f (nI n)) 5 0), (upd (upd ya_parameters 5 (nI P)) f (nI P)), cs, (upd ya_codeCount f (nI (mt_encs ((ow_st P).map c)).length)), fo, co, sa, on, tw, td, nu, tx, ya_ofFunction, ya_codeEnd, ya_instance, ya_token, ya_env, ya_tag, ya_cellEnv, ya_boundNext, ya_step, ya_boundNumber, ya_boundTag, ya_headTag, ya_tailTag, ya_number, ya_boundValue, ya_head, ya_tail, ya_written))) :
    wpY_define post (yf_place, yf_points, yf_names, yf_textEnd, yf_made, yf_entry, yf_waiting, yf_values, yf_bound, yf_cells, yf_conses, yf_lams, yf_steps, yf_atWork, yf_end, yf_writtenCount, ya_kind, ya_up, ya_turn, ya_depth, ya_value, ya_below, ya_length, ya_parameters, ya_codes, ya_codeCount, ya_form, ya_colour, ya_same, ya_one, ya_two, ya_todo, ya_numbered, ya_text, ya_ofFunction, ya_codeEnd, ya_instance, ya_token, ya_env, ya_tag, ya_cellEnv, ya_boundNext, ya_step, ya_boundNumber, ya_boundTag, ya_headTag, ya_tailTag, ya_number, ya_boundValue, ya_head, ya_tail, ya_written) (nI f) (nI P) := by
  have hPg : ∀ g, g < 5 → ln1 g ≠ 0 → Pg g ≤ 2 := by subst hln1; exact fun g hg hl => (lib_drop hf hlib g hg hl).2.2.1
  have hoc : ∀ t, t < n → ocf f P ln1 Pg dk dv t ≤ 3 ∧ (dk t = 4 → ocf f P ln1 Pg dk dv t ≤ 2) ∧ (dk t ≠ 4 → ocf f P ln1 Pg dk dv t = ar (dk t)) := fun t ht => ocf_3 hP2 hPg (hyt.2 t ht).2.1 (hyt.2 t ht).2.2.2.2
  have n24 := hyt.1
  refine y_define (kN := kN) (vN := vnf vl) hf hP2 (lib_yl hlib h24 hly) (fun h hh => (hly h hh).1) (fun fu le k1 k2 => ?_)
  rw [← hln1] at k1
  have h24' : ∀ g, g < 5 → ln1 g ≤ 24 := by
    intro g hg
    subst hln1
    by_cases z : dpn kN (vnf vl) (updN ln f 0) 5 g = 0
    · omega
    · rw [(dp_g z).2]; exact h24 g hg
  have hmis : ∀ g, g < 5 → (le g = 0 ↔ ln1 g = 0) := fun g hg => by rw [k1 g hg]; exact nI0 (by have := h24' g hg; omega)
  have hyo : yo_ok f P n dk dv (ocf f P ln1 Pg dk dv) le ya_parameters := by
    intro t ht
    obtain ⟨o1, o2, o3⟩ := hoc t ht
    refine ⟨o1, o3, fun z g hv hg => ?_⟩
    rw [ocf_c z hg hv]
    refine ⟨fun w => if_pos w, fun w => ?_⟩
    rw [if_neg w]
    by_cases y : ln1 g = 0
    · rw [if_pos y]; exact Or.inl ⟨(hmis g hg).mpr y, rfl⟩
    · rw [if_neg y]
      refine Or.inr ⟨fun x => y ((hmis g hg).mp x), ?_⟩
      have y' := y
      rw [hln1] at y'
      exact ((hly g hg).2 (by rw [← (dp_g y').2]; exact y')).1
  have hui : ∀ t, ub b dk dv (fun g => g ≠ f ∧ le g = 0) t → ub b dk dv (fun g => g ≠ f ∧ ln1 g = 0) t := fun t => ub_iff (fun g hg z => ⟨z.1, (hmis g hg).mp z.2⟩)
  have hui' : ∀ t, ub b dk dv (fun g => g ≠ f ∧ ln1 g = 0) t → ub b dk dv (fun g => g ≠ f ∧ le g = 0) t := fun t => ub_iff (fun g hg z => ⟨z.1, (hmis g hg).mpr z.2⟩)
  refine y_def27 (ya_length := le) (n := n) (kN := dk) (vl := dv) (oc := ocf f P ln1 Pg dk dv) (sp := s) (bd := b) (bi := i) (G := G) hf hP2 n24 (by rw [k2 5 (by omega)]; exact hl5) hyt hyo hG hGi (fun t up tu de be td h1 h2 => hS t le up tu de be td h1 k1 k2 h2) (fun t up tu de be td h1 h2 h3 h4 h5 h6 => hU t le up tu de be td h1 h2 k1 k2 h3 h4 (hui t h5) (fun s hs w => h6 s hs (hui' s w))) (fun up tu de be td h1 h2 h3 h4 h5 => ?_) fu
  have g0 := hGi h1 h2
  obtain ⟨g1, g2, g3, g4⟩ := hG g0
  obtain ⟨hbd, h10, hop⟩ := bd_make (P := P) (f := f) (mis := fun g => g ≠ f ∧ le g = 0) n24 hP2 (fun t ht => ⟨(hyt.2 t ht).2.1, (hyt.2 t ht).2.2.2.1⟩) (fun t ht => ⟨(hoc t ht).1, (hoc t ht).2.2⟩) h1 h2 g1 g2 g4 h5
  have hyb := yb_draft (P := P) g0 hyt hbd h4
  obtain ⟨r1, r2, r3⟩ := hR le up tu de be k1 k2 h3 g0 h2 h1 (fun s hs w => h5 s hs (hui' s w)) hbd hyb
  refine y_def118 (n := n) (P := P) (cod := cod) hf hP2 n24 (by rw [k2 5 (by omega)]; exact hl5) pk_us hbd hyb (fun t ht z => ?_) r1 r2 r3
  obtain ⟨g, q1, q2⟩ := (hyt.2 t ht).2.2.2.2 z
  have e := ocf_c (f := f) (P := P) (ln1 := ln1) (Pg := Pg) z q1 q2
  refine ⟨g, q1, q2, (hoc t ht).2.1 z, fun w => ?_, fun w => ?_⟩
  · rw [pk_us, e, if_pos w]
  · have y : ln1 g ≠ 0 := fun x => h5 t ht (Or.inr (Or.inr ⟨z, g, q1, q2, w, (hmis g q1).mpr x⟩))
    rw [if_neg w, if_neg y] at e
    have y' := y
    rw [hln1] at y'
    have hl : ln g ≠ 0 := by rw [← (dp_g y').2]; exact y'
    obtain ⟨_, _, _, _, _, _, l7, l8, l9, _⟩ := hlib g q1 hl
    obtain ⟨y3, y4, y5, y6⟩ := (hly g q1).2 hl
    rw [pk_un (by omega), e]
    exact ⟨y3, l7, l8, l9, y5, y6⟩
end df2
theorem first_eq {p : Nat → Prop} {t u : Nat} (h1 : p t) (h2 : ∀ s, s < t → ¬ p s) (h3 : p u) (h4 : ∀ s, s < u → ¬ p s) : t = u := by
  apply Classical.byContradiction
  intro z
  by_cases w : t < u
  · exact h4 t w h1
  · exact h2 u (by omega) h3
theorem df_rel {f P : Nat} (hf : f < 5) (hP2 : P ≤ 2) (hR : rel f_saidPlace f_instanceCount f_nodeCount f_equationCount f_stackCount f_wordCount f_depth f_cellCount f_consCount f_closureCount f_stepCount f_runAnswer f_writtenCount a_kinds a_values a_spans a_bounds a_binders a_lengths a_parameterCounts a_typeCodes a_typeLengths a_instanceFunctions a_nodeKinds a_nodeLefts a_nodeRights a_nodeSizes a_equationLefts a_equationRights a_stackLefts a_stackRights a_words a_boundWords a_cellFirsts a_cellSeconds a_closureTokens a_closureWords a_written yf_place yf_points yf_names yf_textEnd yf_made yf_entry yf_waiting yf_values yf_bound yf_cells yf_conses yf_lams yf_steps yf_atWork yf_end yf_writtenCount ya_kind ya_up ya_turn ya_depth ya_value ya_below ya_length ya_parameters ya_codes ya_codeCount ya_form ya_colour ya_same ya_one ya_two ya_todo ya_numbered ya_text ya_ofFunction ya_codeEnd ya_instance ya_token ya_env ya_tag ya_cellEnv ya_boundNext ya_step ya_boundNumber ya_boundTag ya_headTag ya_tailTag ya_number ya_boundValue ya_head ya_tail ya_written) : wpX_define (fun r u => wpY_define (fun r' v => r' = r ∧ rl u v) (yf_place, yf_points, yf_names, yf_textEnd, yf_made, yf_entry, yf_waiting, yf_values, yf_bound, yf_cells, yf_conses, yf_lams, yf_steps, yf_atWork, yf_end, yf_writtenCount, ya_kind, ya_up, ya_turn, ya_depth, ya_value, ya_below, ya_length, ya_parameters, ya_codes, ya_codeCount, ya_form, ya_colour, ya_same, ya_one, ya_two, ya_todo, ya_numbered, ya_text, ya_ofFunction, ya_codeEnd, ya_instance, ya_token, ya_env, ya_tag, ya_cellEnv, ya_boundNext, ya_step, ya_boundNumber, ya_boundTag, ya_headTag, ya_tailTag, ya_number, ya_boundValue, ya_head, ya_tail, ya_written) (nI f) (nI P)) (f_saidPlace, f_instanceCount, f_nodeCount, f_equationCount, f_stackCount, f_wordCount, f_depth, f_cellCount, f_consCount, f_closureCount, f_stepCount, f_runAnswer, f_writtenCount, a_kinds, a_values, a_spans, a_bounds, a_binders, a_lengths, a_parameterCounts, a_typeCodes, a_typeLengths, a_instanceFunctions, a_nodeKinds, a_nodeLefts, a_nodeRights, a_nodeSizes, a_equationLefts, a_equationRights, a_stackLefts, a_stackRights, a_words, a_boundWords, a_cellFirsts, a_cellSeconds, a_closureTokens, a_closureWords, a_written) (nI f) (nI P) := by
  obtain ⟨hpl, ⟨ln, Pg, kN, vl, oc, sp, bd, bi, cod, hlib, hlx, hly⟩, ⟨n, dk, dv, hd1, hd2, hxt, hyt⟩, hm, hr⟩ := hR
  have h24 : ∀ g, g < 5 → ln g ≤ 24 := fun g hg => (hlx g hg).2.1
  have n24 := hxt.1
  generalize hln1 : dpn kN (vnf vl) (updN ln f 0) 5 = ln1
  have hlib1 : lib ln1 Pg kN vl oc sp bd bi cod := by rw [← hln1]; exact lib_drop hf hlib
  have hg1 : ∀ g, ln1 g ≠ 0 → g ≠ f ∧ ln1 g = ln g := by rw [← hln1]; exact fun g => dp_g
  have h24' : ∀ g, g < 5 → ln1 g ≤ 24 := by
    intro g hg
    by_cases z : ln1 g = 0
    · omega
    · rw [(hg1 g z).2]; exact h24 g hg
  have hoc : ∀ t, t < n → ocf f P ln1 Pg dk dv t ≤ 3 ∧ (dk t = 4 → ocf f P ln1 Pg dk dv t ≤ 2) ∧ (dk t ≠ 4 → ocf f P ln1 Pg dk dv t = ar (dk t)) := fun t ht => ocf_3 hP2 (fun g hg hl => (hlib1 g hg hl).2.2.1) (hxt.2 t ht).2.1 (hxt.2 t ht).2.2.2.2
  have hle0 : ∀ (le : Nat → Int32), (∀ h, h < 5 → le h = nI (ln1 h)) → 0 < n → ∀ g, g < 5 → (upd (upd le f (nI n)) 10 0 g = 0 ↔ g ≠ f ∧ ln1 g = 0) := by
    intro le hle hn0 g hg
    by_cases z : g = f
    · subst z
      rw [pk_un (by omega), pk_us, nI0 (by omega)]
      exact ⟨fun w => by omega, fun w => absurd rfl w.1⟩
    · rw [pk_un (by omega), pk_un z, hle g hg, nI0 (by have := h24' g hg; omega)]
      exact ⟨fun w => ⟨z, w⟩, fun w => w.2⟩
  refine x_define (n := n) (kN := kN) (vN := vnf vl) (ln := ln) (ln1 := ln1) (dk := dk) (dv := dv) (oc := ocf f P ln1 Pg dk dv) (cod := cod) hf hP2 n24 (lib_xl hlib hlx) (fun h hh => (hlx h hh).1) hln1.symm hd1 hxt (fun le hle t ht => ?_) (fun t ht => (hoc t ht).2.1) (fun hcall t ht z g hv hg hne => ?_) (fun t le ki va hxd hsh => ?_) (fun t le ki va spA bo bin s b i hxd hout a1 a2 hbw htr hb0 hb1 ht u1 u2 => ?_) (fun le ki va spA bo bin s b i hxd hout hin a1 a2 htr hb0 hb1 hbd h10 hop hub => ?_)
  · obtain ⟨o1, o2, o3⟩ := hoc t ht
    refine ⟨o1, o3, fun z g hv hg => ?_⟩
    have e0 := hle0 le hle (by omega) g hg
    rw [ocf_c z hg hv]
    by_cases w : g = f
    · subst w
      rw [if_pos rfl, pk_us]
      exact Or.inr ⟨fun x => (e0.mp x).1 rfl, rfl⟩
    · rw [if_neg w, pk_un w]
      by_cases y : ln1 g = 0
      · rw [if_pos y]; exact Or.inl ⟨e0.mpr ⟨w, y⟩, rfl⟩
      · rw [if_neg y]
        exact Or.inr ⟨fun x => y (e0.mp x).2, ((hlx g hg).2.2 (by rw [← (hg1 g y).2]; exact y)).1⟩
  · obtain ⟨g', q1, q2, q3⟩ := hcall (fun h => nI (ln1 h)) t (fun _ _ => rfl) ht z
    have e : g' = g := by rw [q2] at hv; exact (nI_eq (by omega) (by omega)).mp hv
    subst e
    have y : ln1 g' ≠ 0 := fun x => q3 ((hle0 (fun h => nI (ln1 h)) (fun _ _ => rfl) (by omega) g' q1).mpr ⟨hne, x⟩)
    have hl : ln g' ≠ 0 := by rw [← (hg1 g' y).2]; exact y
    obtain ⟨_, _, _, _, _, _, l7, l8, l9, _⟩ := hlib g' q1 hl
    rw [ocf_c z q1 q2, if_neg hne, if_neg y]
    exact ⟨((hlx g' q1).2.2 hl).2.2, l7, l8⟩
  · refine y_def_all (s := fun _ => 0) (b := fun _ => 0) (i := fun _ => 0) (G := False) hf hP2 hlib h24 hly hln1.symm hd2 hyt (fun z => z.elim) (fun w1 w2 => ?_) (fun t' yle up tu de be td hsh' k1 k2 k3 => ?_) (fun t' yle up tu de be td w1 w2 => ?_) (fun yle up tu de be _ _ _ z => z.elim)
    · rcases hsh with ⟨b1, b2, _⟩ | ⟨_, _, b3⟩
      · exact w1 t b1 b2
      · exact b3 w2
    · have e : t' = t := by
        rcases hsh with ⟨b1, b2, b3⟩ | ⟨b1, b2, b3⟩ <;> rcases hsh' with ⟨c1, c2, c3⟩ | ⟨c1, c2, c3⟩
        · exact first_eq (p := fun t => aw (ocf f P ln1 Pg dk dv) t = 0) c2 c3 b2 b3
        · exact absurd b2 (c2 t b1)
        · exact absurd c2 (b2 t' c1)
        · rw [b1, c1]
      subst e
      obtain ⟨B1, B2, B3⟩ := df_bad (spA := a_spans) (bo := a_bounds) (bin := a_binders) hf hlib hlx hly hm hln1.symm (fun j hj => ⟨(hxd.2.2.2 j hj).1, (hxd.2.2.2 j hj).2, rfl, rfl, rfl⟩) hxd.1 hxd.2.1 k3 k1 k2 (nI P) (nI P) (nI n)
      exact ⟨rfl, rfl, B1, B2, B3, hr⟩
    · exfalso
      rcases hsh with ⟨b1, b2, _⟩ | ⟨_, _, b3⟩
      · exact w1 t b1 b2
      · exact b3 w2
  · have hn0 := aw_pos a2
    refine y_def_all (s := s) (b := b) (i := i) (G := True) hf hP2 hlib h24 hly hln1.symm hd2 hyt (fun _ => ⟨hbw, htr, hb1, hb0⟩) (fun _ _ => trivial) (fun t' yle up tu de be td hsh' k1 k2 k3 => ?_) (fun t' yle up tu de be td w1 w2 k1 k2 k3 v1 v2 v3 => ?_) (fun yle up tu de be k1 k2 k3 _ w1 w2 w3 => ?_)
    · exfalso
      rcases hsh' with ⟨b1, b2, _⟩ | ⟨_, _, b3⟩
      · exact a1 t' b1 b2
      · exact b3 a2
    · have e : t' = t := first_eq v2 v3 (ub_iff (fun g hg w => (hle0 le hxd.1 hn0 g hg).mp w) u1) (fun s hs w => u2 s hs (ub_iff (fun g hg w => (hle0 le hxd.1 hn0 g hg).mpr w) w))
      subst e
      obtain ⟨B1, B2, B3⟩ := df_bad hf hlib hlx hly hm hln1.symm (fun j hj => ⟨(hxd.2.2.2 j hj).1, (hxd.2.2.2 j hj).2, hout j hj⟩) hxd.1 hxd.2.1 k3 k1 k2 (nI P) (nI P) (nI n)
      exact ⟨rfl, rfl, B1, B2, B3, hr⟩
    · exact absurd (ub_iff (fun g hg w => (hle0 le hxd.1 hn0 g hg).mp w) u1) (w3 t ht)
  · have hn0 := aw_pos a2
    have hbw := hbd.2.1
    have hh1 : ∀ j, j < f * 24 ∨ f * 24 + 24 ≤ j → ki j = a_kinds j ∧ va j = a_values j ∧ spA j = a_spans j ∧ bo j = a_bounds j ∧ bin j = a_binders j := fun j hj => ⟨(hxd.2.2.2 j hj).1, (hxd.2.2.2 j hj).2, hout j hj⟩
    have hown : ∀ t, t < n → dk t = 4 → (dv t).toNatClampNeg = f → ocf f P ln1 Pg dk dv t = P := by
      intro t _ z w
      unfold ocf
      rw [if_pos z, if_pos w]
    have hdep : ∀ r r' : Nat → mt_T, (∀ p, yl_in n P p → r' p = r p) → S_t (fun _ => True) f dk dv (ocf f P ln1 Pg dk dv) s b i cod n r → S_t (fun _ => True) f dk dv (ocf f P ln1 Pg dk dv) s b i cod n r' := fun r r' e h => S_dep hn0 hbd hb0 hown e (fun _ => trivial) h
    -- Y from here on
    have yy : ∀ {post : Int32 → SY → Prop}, _ → wpY_define post (yf_place, yf_points, yf_names, yf_textEnd, yf_made, yf_entry, yf_waiting, yf_values, yf_bound, yf_cells, yf_conses, yf_lams, yf_steps, yf_atWork, yf_end, yf_writtenCount, ya_kind, ya_up, ya_turn, ya_depth, ya_value, ya_below, ya_length, ya_parameters, ya_codes, ya_codeCount, ya_form, ya_colour, ya_same, ya_one, ya_two, ya_todo, ya_numbered, ya_text, ya_ofFunction, ya_codeEnd, ya_instance, ya_token, ya_env, ya_tag, ya_cellEnv, ya_boundNext, ya_step, ya_boundNumber, ya_boundTag, ya_headTag, ya_tailTag, ya_number, ya_boundValue, ya_head, ya_tail, ya_written) (nI f) (nI P) := fun {post} hh => y_def_all (post := post) (s := s) (b := b) (i := i) (G := True) hf hP2 hlib h24 hly hln1.symm hd2 hyt (fun _ => ⟨hbw, htr, hb1, hb0⟩) (fun _ _ => trivial) (fun t' yle up tu de be td hsh' k1 k2 k3 => by
        exfalso
        rcases hsh' with ⟨b1, b2, _⟩ | ⟨_, _, b3⟩
        · exact a1 t' b1 b2
        · exact b3 a2) (fun t' yle up tu de be td w1 w2 k1 k2 k3 v1 v2 v3 => absurd (ub_iff (fun g hg w => (hle0 le hxd.1 hn0 g hg).mpr w) v2) (hub t' v1)) hh
    refine ⟨fun t N K nl nr sz el er ht e1 e2 => yy (fun yle up tu de be k1 k2 k3 _ _ _ _ _ hyb => ⟨fun t' N' fo sa on tw co td nu ht' e1' e2' => ?_, fun N' Sol c h74 hmg hpj hlar => ?_, fun N' Sol c h74 hmg hpj hlar => ?_⟩),
      fun N Sol c h74 hmg hpj hlar nc K nl nr sz el er => yy (fun yle up tu de be k1 k2 k3 _ _ _ _ _ hyb => ⟨fun t' N' fo sa on tw co td nu ht' e1' e2' => ?_, fun N' Sol' c' h74' hmg' hpj' hlar' => ?_, fun N' Sol' c' h74' hmg' hpj' hlar' => ?_⟩),
      fun N Sol c h74 hmg hpj hlar nc K nl nr sz el er sl sr tc htc1 htc2 => yy (fun yle up tu de be k1 k2 k3 _ _ _ _ _ hyb => ⟨fun t' N' fo sa on tw co td nu ht' e1' e2' => ?_, fun N' Sol' c' h74' hmg' hpj' hlar' => ?_, fun N' Sol' c' h74' hmg' hpj' hlar' => ?_⟩)⟩
    · have e : t' = t := by
        apply Classical.byContradiction
        intro z
        by_cases w : t' < t
        · rcases e1 with y | ⟨r, r1, r2⟩
          · omega
          · exact e2' r r1 (S_mono r2 (by omega))
        · rcases e1' with y | ⟨r, r1, r2⟩
          · omega
          · exact e2 r r1 (S_mono r2 (by omega))
      subst e
      obtain ⟨B1, B2, B3⟩ := df_bad hf hlib hlx hly hm hln1.symm hh1 hxd.1 hxd.2.1 k3 k1 k2 (nI P) (nI P) (nI n)
      exact ⟨rfl, rfl, B1, B2, B3, hr⟩
    · exact absurd (S_mono (hpj.1 c hmg.1 (mg_self hmg)) (by omega)) (e2 c hmg.1)
    · exact absurd (S_mono (hpj.1 c hmg.1 (mg_self hmg)) (by omega)) (e2 c hmg.1)
    · exact absurd (S_mono (hpj.1 c hmg.1 (mg_self hmg)) (by omega)) (e2' c hmg.1)
    · intro pt te nm fo sa on tw co td nu tx
      obtain ⟨B1, B2, B3⟩ := df_bad hf hlib hlx hly hm hln1.symm hh1 hxd.1 hxd.2.1 k3 k1 k2 (nI P) (nI P) (nI n)
      exact ⟨rfl, rfl, B1, B2, B3, hr⟩
    · exfalso
      obtain ⟨p, p1, p2⟩ := hlar
      by_cases z : yl_in n P p
      · have := hlar' p p1 z
        rw [← pj_len (B := 74) h74 h74' hmg hpj hmg' hpj' p p1] at this
        omega
      · have := un_1 h74 hmg hpj hdep p1 z
        omega
    · exact absurd (S_mono (hpj.1 c hmg.1 (mg_self hmg)) (by omega)) (e2' c hmg.1)
    · exfalso
      obtain ⟨p, p1, p2⟩ := hlar'
      have := hlar p p1
      rw [pj_len (B := 74) h74 h74' hmg hpj hmg' hpj' p p1] at this
      omega
    · intro pt te nm fo sa on tw co td nu tx ki' va' up' tu' de' be' cs hyk hcs2 hcs1
      have ec : cn_go [] (mt_encs ((ow_st P).map c')) = cn_go [] (mt_encs ((ow_st P).map c)) := pj_codes h74' h74 hmg' hpj' hmg hpj (ow_st P) (ow_lt hP2)
      have el : (cn_go [] (mt_encs ((ow_st P).map c))).length = (mt_encs ((ow_st P).map c)).length := wr_len false [] _
      have el' : (cn_go [] (mt_encs ((ow_st P).map c))).length = (mt_encs ((ow_st P).map c')).length := by rw [← ec]; exact wr_len false [] _
      have hle : (mt_encs ((ow_st P).map c)).length ≤ 14 * (P + 1) := by
        have := pr_le (c := c) (P := P) (fun p hp => hlar (72 + p) (by omega)) P (Nat.le_refl _)
        have := hlar 0 (by omega)
        rw [ow_enc, List.length_append]; omega
      have hcall : ∀ t, t < n → dk t = 4 → ∃ h, h < 5 ∧ dv t = nI h ∧ (h = f ∧ ocf f P ln1 Pg dk dv t = P ∨ h ≠ f ∧ ln1 h ≠ 0 ∧ ocf f P ln1 Pg dk dv t = Pg h) := by
        intro t ht z
        obtain ⟨g, q1, q2⟩ := (hxt.2 t ht).2.2.2.2 z
        refine ⟨g, q1, q2, ?_⟩
        rw [ocf_c z q1 q2]
        by_cases w : g = f
        · exact Or.inl ⟨w, if_pos w⟩
        · have y : ln1 g ≠ 0 := fun x => hub t ht (Or.inr (Or.inr ⟨z, g, q1, q2, (hle0 le hxd.1 hn0 g q1).mpr ⟨w, x⟩⟩))
          rw [if_neg w, if_neg y]
          exact Or.inr ⟨w, y, rfl⟩
      obtain ⟨B1, B2, B3⟩ := df_ok (cf := cn_go [] (mt_encs ((ow_st P).map c))) (dk := dk) (dv := dv) hf hP2 n24 (by omega) hlib hlx hly hm hln1.symm hh1 hxd.1 hxd.2.1 (fun t ht => ⟨(hxd.2.2.1 t ht).1, (hxd.2.2.1 t ht).2, hin t ht⟩) k3 k1 k2 hbd hb0 h10 hop hcall (cod_ts hmg.1) (by rw [el]; exact hle) (fun k hk => wr_lt (cl := false) (by omega) k hk) (pj_principal h74 hP2 hmg hpj) hyb hyk htc1 (fun k hk => htc2 k (by rw [← el]; exact hk)) hcs1 (fun k hk => by rw [hcs2 k (by rw [← el']; exact hk), ec])
      rw [el] at B1 B3
      rw [← el', el]
      exact ⟨rfl, rfl, B1, B2, B3, hr⟩

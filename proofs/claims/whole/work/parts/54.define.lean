variable {f_saidPlace f_instanceCount f_nodeCount f_equationCount f_stackCount f_wordCount f_depth f_cellCount f_consCount f_closureCount f_stepCount f_runAnswer f_writtenCount : Int32} {a_kinds a_values a_spans a_bounds a_binders a_lengths a_parameterCounts a_typeCodes a_typeLengths a_instanceFunctions a_nodeKinds a_nodeLefts a_nodeRights a_nodeSizes a_equationLefts a_equationRights a_stackLefts a_stackRights a_words a_boundWords a_cellFirsts a_cellSeconds a_closureTokens a_closureWords a_written : Nat → Int32}
variable {yf_place yf_points yf_names yf_textEnd yf_made yf_entry yf_waiting yf_values yf_bound yf_cells yf_conses yf_lams yf_steps yf_atWork yf_end yf_writtenCount : Int32} {ya_kind ya_up ya_turn ya_depth ya_value ya_below ya_length ya_parameters ya_codes ya_codeCount ya_form ya_colour ya_same ya_one ya_two ya_todo ya_numbered ya_text ya_ofFunction ya_codeEnd ya_instance ya_token ya_env ya_tag ya_cellEnv ya_boundNext ya_step ya_boundNumber ya_boundTag ya_headTag ya_tailTag ya_number ya_boundValue ya_head ya_tail ya_written : Nat → Int32}
theorem nI0 {n : Nat} (h : n < 2 ^ 31) : nI n = 0 ↔ n = 0 := nI_eq (b := 0) h (by omega)
theorem yb_draft {n P : Nat} {ki va up tu de be : Nat → Int32} {kN : Nat → Nat} {vl : Nat → Int32} {oc sp bd bi : Nat → Nat} {G : Prop} (hG : G) (hx : yt_ok n ki va kN vl) (hbd : bd_ok n kN vl oc sp bd bi) (hd : yd_ok G oc sp bd up tu de be n) : yb_ok 5 n ki va up tu de be kN vl oc sp bd := by
  intro t ht
  obtain ⟨a1, a2, a3, _⟩ := hx.2 t ht
  obtain ⟨d1, d2, d3⟩ := hd t ht
  refine ⟨a1, a3, d1 hG, fun j hj => ?_, d2, fun z => ?_⟩
  · obtain ⟨b1, b2, b3⟩ := bw_in hbd.2.1 ht hj
    obtain ⟨u, j', u1, u2, u3, _, _, u6⟩ := (hd (jp sp t j) b3).2.2 (by omega) hG
    obtain ⟨e1, e2⟩ := bw_uniq hbd.2.1 (by omega) ht u2 hj u3.symm
    subst e1 e2
    exact u6
  · obtain ⟨u, j', u1, u2, u3, u4, u5, _⟩ := d3 z hG
    exact ⟨u, j', u1, u2, u3, u4, u5⟩
theorem yb_copied {f n : Nat} {ki va up tu de be ki' va' up' tu' de' be' : Nat → Int32} {kN : Nat → Nat} {vl : Nat → Int32} {oc sp bd bi : Nat → Nat} (hbd : bd_ok n kN vl oc sp bd bi) {F : Nat} (hb : yb_ok F n ki va up tu de be kN vl oc sp bd) (hk : yk_ok F f 24 ki va up tu de be ki' va' up' tu' de' be') : yb_ok f n ki' va' up' tu' de' be' kN vl oc sp bd := by
  obtain ⟨n24, bw, _, _, hbt⟩ := hbd
  intro t ht
  obtain ⟨a1, a2, a3, a4, a5, a6⟩ := hb t ht
  obtain ⟨k1, k2, k3, k4, k5⟩ := hk.1 t (by omega)
  obtain ⟨c1, c2, c3, _⟩ := hbt t ht
  rw [k1, k2, k5, a1, a3]
  refine ⟨nr_b0 (by omega), a2, nr_b0 (by omega), fun j hj => ?_, fun z => ?_, fun z => ?_⟩
  · have h1 := hk.2.1 (3 * t + j) (by omega)
    have h2 := (bw_in bw ht hj).2.2
    rw [← Nat.add_assoc, ← Nat.add_assoc, a4 j hj] at h1
    rw [h1]; exact nr_s0 (by omega)
  · rw [k3, a5 z]; exact nr_bm
  · obtain ⟨s, j, s1, s2, s3, s4, s5⟩ := a6 z
    have := (hbt s (by omega)).2.1
    exact ⟨s, j, s1, s2, s3, by rw [k3, s4]; exact nr_b0 (by omega), by rw [k4, s5]; exact nr_b0 (by omega)⟩
theorem sc_ow {P : Nat} (r : Nat → mt_T) : (List.range P).map (fun j => r (72 + j)) ++ [r 0] = (ow_st P).map r := by
  unfold ow_st; simp [List.map_map, Function.comp_def]
theorem pj_principal {N P : Nat} {Sol S : (Nat → mt_T) → Prop} {c : Nat → mt_T} (hN : 74 ≤ N) (hP2 : P ≤ 2) (hm : mg_is N Sol c) (hp : pj_is 74 Sol S) (tp : List mt_T) :
    sc_inst (cn_go [] (mt_encs ((ow_st P).map c))) tp ↔ ∃ r, (∀ n, mt_wf (r n)) ∧ S r ∧ tp = (ow_st P).map r := by
  rw [← mg_inst hm (ow_st P) (fun n hn => by have := ow_lt hP2 n hn; omega) tp]
  constructor
  · rintro ⟨r, r1, r2, r3⟩; exact ⟨r, r1, hp.1 r r1 r2, r3⟩
  · rintro ⟨r, r1, r2, r3⟩
    obtain ⟨r', q1, q2, q3⟩ := hp.2 r r1 r2
    exact ⟨r', q1, q2, by rw [r3]; exact List.map_congr_left (fun n hn => (q3 n (ow_lt hP2 n hn)).symm)⟩
theorem cod_ts {P : Nat} {c : Nat → mt_T} (hw : ∀ n, mt_wf (c n)) : ∃ ts, (∀ t ∈ ts, mt_wf t) ∧ mt_encs ts = cn_go [] (mt_encs ((ow_st P).map c)) ∧ ts.length = P + 1 := by
  have hwm : ∀ t ∈ (ow_st P).map c, mt_wf t := by
    intro t ht
    obtain ⟨n, _, rfl⟩ := List.mem_map.mp ht
    exact hw n
  refine ⟨((ow_st P).map c).map (mt_sub (fun v => .leaf (10 + cn_ix (10 + v) (cn_seen [] (mt_encs ((ow_st P).map c)))))), fun t ht => ?_, ?_, by rw [List.length_map, List.length_map, ow_len]⟩
  · obtain ⟨x, hx, rfl⟩ := List.mem_map.mp ht
    exact mt_sub_wf (fun v => mt_wfv _) x (hwm x hx)
  · rw [cn_go_map]
    exact mt_encs_rn _ hwm (fun v _ => rfl)
/-- the new function among the others -/
theorem lib_new {ln P : Nat → Nat} {kN : Nat → Nat → Nat} {vl : Nat → Nat → Int32} {oc sp bd bi : Nat → Nat → Nat} {cod : Nat → List Nat} {f n p : Nat} {dk : Nat → Nat} {dv : Nat → Int32} {o s b i : Nat → Nat} {cf : List Nat} (h : lib ln P kN vl oc sp bd bi cod) (hf : ln f = 0) (hn0 : n ≠ 0)
    (hbd : bd_ok n dk dv o s b i) (h0 : b 0 = p) (hp : p ≤ 2) (h10 : ∀ t, t < n → b t ≤ 10) (hop : ∀ t, t < n → 0 < op (dk t) → b t + op (dk t) ≤ 10)
    (hc : ∀ t, t < n → dk t = 4 → ∃ h, h < 5 ∧ dv t = nI h ∧ (h = f ∧ o t = p ∨ h ≠ f ∧ ln h ≠ 0 ∧ o t = P h)) (hts : ∃ ts, (∀ t ∈ ts, mt_wf t) ∧ mt_encs ts = cf ∧ ts.length = p + 1) (hcl : cf.length ≤ 14 * (p + 1)) (hc60 : ∀ k, k < cf.length → cf.getD k 0 < 60)
    (hpr : ∀ tp, sc_inst cf tp ↔ ∃ r, (∀ n, mt_wf (r n)) ∧ S_t (fun _ => True) f dk dv o s b i cod n r ∧ tp = (ow_st p).map r) :
    lib (updG ln f n) (updG P f p) (updG kN f dk) (updG vl f dv) (updG oc f o) (updG sp f s) (updG bd f b) (updG bi f i) (updG cod f cf) := by
  intro g hg hl
  by_cases z : g = f
  · subst z
    simp only [uG_s] at hl ⊢
    refine ⟨hbd, h0, hp, h10, hop, fun t ht k4 => ?_, hts, hcl, hc60, fun tp => (hpr tp).trans ?_⟩
    · obtain ⟨h', h1, h2, h3⟩ := hc t ht k4
      refine ⟨h', h1, h2, ?_⟩
      rcases h3 with ⟨e, h3⟩ | ⟨e, h3, h4⟩
      · subst e; rw [uG_s, uG_s]; exact ⟨hl, h3⟩
      · rw [uG_n e, uG_n e]; exact ⟨h3, h4⟩
    · have key : ∀ t, t < n → dk t = 4 → (dv t).toNatClampNeg ≠ g → updG cod g cf (dv t).toNatClampNeg = cod (dv t).toNatClampNeg := fun t _ _ w => uG_n w
      constructor
      · rintro ⟨r, r1, r2, r3⟩; exact ⟨r, r1, S_cod (fun t ht => (hbd.2.2.2.2 t ht).1) key r2, r3⟩
      · rintro ⟨r, r1, r2, r3⟩; exact ⟨r, r1, S_cod (fun t ht => (hbd.2.2.2.2 t ht).1) (fun t ht a w => (key t ht a w).symm) r2, r3⟩
  · rw [uG_n z] at hl
    simp only [uG_n z]
    obtain ⟨l1, l2, l3, l4, l5, l6, l7, l8, l9, l10⟩ := h g hg hl
    refine ⟨l1, l2, l3, l4, l5, fun t ht k4 => ?_, l7, l8, l9, fun tp => (l10 tp).trans ?_⟩
    · obtain ⟨h', h1, h2, h3, h4⟩ := l6 t ht k4
      have e : h' ≠ f := fun w => h3 (w ▸ hf)
      exact ⟨h', h1, h2, by rw [uG_n e]; exact h3, by rw [uG_n e]; exact h4⟩
    · have key : ∀ t, t < ln g → kN g t = 4 → (vl g t).toNatClampNeg ≠ g → updG cod f cf (vl g t).toNatClampNeg = cod (vl g t).toNatClampNeg := by
        intro t ht k4 _
        obtain ⟨h', h1, h2, h3, h4⟩ := l6 t ht k4
        rw [h2, nI_clamp (by omega)]
        exact uG_n (fun w => h3 (w ▸ hf))
      constructor
      · rintro ⟨r, r1, r2, r3⟩; exact ⟨r, r1, S_cod (fun t ht => (l1.2.2.2.2 t ht).1) key r2, r3⟩
      · rintro ⟨r, r1, r2, r3⟩; exact ⟨r, r1, S_cod (fun t ht => (l1.2.2.2.2 t ht).1) (fun t ht a w => (key t ht a w).symm) r2, r3⟩
/-- the relation, of states -/
def rl (u : SX) (v : SY) : Prop := match u with
  | (f_saidPlace, f_instanceCount, f_nodeCount, f_equationCount, f_stackCount, f_wordCount, f_depth, f_cellCount, f_consCount, f_closureCount, f_stepCount, f_runAnswer, f_writtenCount, a_kinds, a_values, a_spans, a_bounds, a_binders, a_lengths, a_parameterCounts, a_typeCodes, a_typeLengths, a_instanceFunctions, a_nodeKinds, a_nodeLefts, a_nodeRights, a_nodeSizes, a_equationLefts, a_equationRights, a_stackLefts, a_stackRights, a_words, a_boundWords, a_cellFirsts, a_cellSeconds, a_closureTokens, a_closureWords, a_written) => match v with
    | (yf_place, yf_points, yf_names, yf_textEnd, yf_made, yf_entry, yf_waiting, yf_values, yf_bound, yf_cells, yf_conses, yf_lams, yf_steps, yf_atWork, yf_end, yf_writtenCount, ya_kind, ya_up, ya_turn, ya_depth, ya_value, ya_below, ya_length, ya_parameters, ya_codes, ya_codeCount, ya_form, ya_colour, ya_same, ya_one, ya_two, ya_todo, ya_numbered, ya_text, ya_ofFunction, ya_codeEnd, ya_instance, ya_token, ya_env, ya_tag, ya_cellEnv, ya_boundNext, ya_step, ya_boundNumber, ya_boundTag, ya_headTag, ya_tailTag, ya_number, ya_boundValue, ya_head, ya_tail, ya_written) => rel f_saidPlace f_instanceCount f_nodeCount f_equationCount f_stackCount f_wordCount f_depth f_cellCount f_consCount f_closureCount f_stepCount f_runAnswer f_writtenCount a_kinds a_values a_spans a_bounds a_binders a_lengths a_parameterCounts a_typeCodes a_typeLengths a_instanceFunctions a_nodeKinds a_nodeLefts a_nodeRights a_nodeSizes a_equationLefts a_equationRights a_stackLefts a_stackRights a_words a_boundWords a_cellFirsts a_cellSeconds a_closureTokens a_closureWords a_written yf_place yf_points yf_names yf_textEnd yf_made yf_entry yf_waiting yf_values yf_bound yf_cells yf_conses yf_lams yf_steps yf_atWork yf_end yf_writtenCount ya_kind ya_up ya_turn ya_depth ya_value ya_below ya_length ya_parameters ya_codes ya_codeCount ya_form ya_colour ya_same ya_one ya_two ya_todo ya_numbered ya_text ya_ofFunction ya_codeEnd ya_instance ya_token ya_env ya_tag ya_cellEnv ya_boundNext ya_step ya_boundNumber ya_boundTag ya_headTag ya_tailTag ya_number ya_boundValue ya_head ya_tail ya_written
section df
variable {f P n : Nat} {ln Pg ln1 : Nat → Nat} {kN : Nat → Nat → Nat} {vl : Nat → Nat → Int32} {oc sp bd bi : Nat → Nat → Nat} {cod : Nat → List Nat} {dk : Nat → Nat} {dv : Nat → Int32}
theorem df_bad (hf : f < 5) (hlib : lib ln Pg kN vl oc sp bd bi cod) (hlx : lx_ok ln Pg kN vl sp bd bi cod a_kinds a_values a_spans a_bounds a_binders a_lengths a_parameterCounts a_typeCodes a_typeLengths) (hly : ly_ok ln Pg kN vl oc sp bd cod ya_kind ya_value ya_up ya_turn ya_depth ya_below ya_length ya_parameters ya_codes ya_codeCount)
    (hm : rel_m f_instanceCount a_kinds a_values a_spans a_bounds a_lengths a_parameterCounts a_typeCodes a_typeLengths a_instanceFunctions yf_made yf_entry ya_kind ya_value ya_below ya_parameters ya_ofFunction ya_codeEnd ya_instance)
    (hln1 : ln1 = dpn kN (vnf vl) (updN ln f 0) 5) {ki va spA bo bin le up tu de be yle : Nat → Int32} (h1 : ∀ j, j < f * 24 ∨ f * 24 + 24 ≤ j → ki j = a_kinds j ∧ va j = a_values j ∧ spA j = a_spans j ∧ bo j = a_bounds j ∧ bin j = a_binders j) (h2 : ∀ h, h < 5 → le h = nI (ln1 h)) (h3 : ∀ j, 5 ≤ j → le j = a_lengths j)
    (h4 : yr_ok ya_up ya_turn ya_depth ya_below up tu de be) (h5 : ∀ h, h < 5 → yle h = nI (ln1 h)) (h6 : ∀ j, 5 ≤ j → yle j = ya_length j) (p q : Int32) (l : Int32) :
    rel_b ki va spA bo bin (upd (upd (upd le f l) 10 0) f 0) (upd a_parameterCounts f p) a_typeCodes a_typeLengths ya_kind ya_value up tu de be (upd yle 5 0) (upd ya_parameters 5 q) ya_codes ya_codeCount ∧
    (∃ n dk dv, rel_d ki va (upd (upd (upd le f l) 10 0) f 0) ya_kind ya_value (upd yle 5 0) n dk dv) ∧
    rel_m f_instanceCount ki va spA bo (upd (upd (upd le f l) 10 0) f 0) (upd a_parameterCounts f p) a_typeCodes a_typeLengths a_instanceFunctions yf_made yf_entry ya_kind ya_value be (upd ya_parameters 5 q) ya_ofFunction ya_codeEnd ya_instance := by
  subst hln1
  refine ⟨⟨_, Pg, kN, vl, oc, sp, bd, bi, cod, lib_drop hf hlib, lx_drop hlx (fun g => dp_g) h1 (fun g hg => ?_) (fun g hg hgf => pk_un hgf), ly_drop hlib hly (fun g => dp_g) (fun j hj _ => ⟨rfl, rfl, h4.1 j (by omega)⟩) (fun j hj _ => h4.2 j (by omega)) (fun g hg => ?_) (fun g hg _ => pk_un (by omega))⟩, ⟨0, fun _ => 0, fun _ => 0, ?_, pk_us, ⟨by omega, fun t ht => by omega⟩, ⟨by omega, fun t ht => by omega⟩⟩, rm_congr hm (fun j j1 j2 => ?_) (fun j j1 j2 => ?_) (fun _ _ => rfl) (fun _ _ => rfl) (fun _ _ => ⟨rfl, rfl⟩) (fun j hj => h4.2 j (by omega)) (fun j hj => pk_un (by omega))⟩
  · by_cases z : g = f
    · rw [z, pk_us, dp_f]; rfl
    · rw [pk_un z, pk_un (by omega), pk_un z]; exact h2 g hg
  · rw [pk_un (by omega)]; exact h5 g hg
  · rw [pk_un (by omega), pk_us]; rfl
  · obtain ⟨a, b, c, d, _⟩ := h1 j (by omega)
    exact ⟨a, b, c, d⟩
  · rw [pk_un (by omega), pk_un (by omega), pk_un (by omega), pk_un (by omega), h3 j (by omega)]; exact ⟨rfl, rfl⟩
theorem df_ok (hf : f < 5) (hP2 : P ≤ 2) (hn : n ≤ 24) (hn0 : n ≠ 0) (hlib : lib ln Pg kN vl oc sp bd bi cod) (hlx : lx_ok ln Pg kN vl sp bd bi cod a_kinds a_values a_spans a_bounds a_binders a_lengths a_parameterCounts a_typeCodes a_typeLengths) (hly : ly_ok ln Pg kN vl oc sp bd cod ya_kind ya_value ya_up ya_turn ya_depth ya_below ya_length ya_parameters ya_codes ya_codeCount)
    (hm : rel_m f_instanceCount a_kinds a_values a_spans a_bounds a_lengths a_parameterCounts a_typeCodes a_typeLengths a_instanceFunctions yf_made yf_entry ya_kind ya_value ya_below ya_parameters ya_ofFunction ya_codeEnd ya_instance)
    (hln1 : ln1 = dpn kN (vnf vl) (updN ln f 0) 5) {ki va spA bo bin le tc up tu de be yle yki yva yup ytu yde ybe cs : Nat → Int32} {o s b i : Nat → Nat} {cf : List Nat} (h1 : ∀ j, j < f * 24 ∨ f * 24 + 24 ≤ j → ki j = a_kinds j ∧ va j = a_values j ∧ spA j = a_spans j ∧ bo j = a_bounds j ∧ bin j = a_binders j) (h2 : ∀ h, h < 5 → le h = nI (ln1 h)) (h3 : ∀ j, 5 ≤ j → le j = a_lengths j)
    (h1' : ∀ t, t < n → ki (f * 24 + t) = nI (dk t) ∧ va (f * 24 + t) = dv t ∧ spA (f * 24 + t) = nI (s t) ∧ bo (f * 24 + t) = nI (b t) ∧ bin (f * 24 + t) = (if i t = 0 then -1 else nI (i t - 1)))
    (h4 : yr_ok ya_up ya_turn ya_depth ya_below up tu de be) (h5 : ∀ h, h < 5 → yle h = nI (ln1 h)) (h6 : ∀ j, 5 ≤ j → yle j = ya_length j)
    (hbd : bd_ok n dk dv o s b i) (h0 : b 0 = P) (h10 : ∀ t, t < n → b t ≤ 10) (hop : ∀ t, t < n → 0 < op (dk t) → b t + op (dk t) ≤ 10)
    (hc : ∀ t, t < n → dk t = 4 → ∃ h, h < 5 ∧ dv t = nI h ∧ (h = f ∧ o t = P ∨ h ≠ f ∧ ln1 h ≠ 0 ∧ o t = Pg h)) (hts : ∃ ts, (∀ t ∈ ts, mt_wf t) ∧ mt_encs ts = cf ∧ ts.length = P + 1) (hcl : cf.length ≤ 14 * (P + 1)) (hc60 : ∀ k, k < cf.length → cf.getD k 0 < 60)
    (hpr : ∀ tp, sc_inst cf tp ↔ ∃ r, (∀ n, mt_wf (r n)) ∧ S_t (fun _ => True) f dk dv o s b i cod n r ∧ tp = (ow_st P).map r)
    (hyb : yb_ok 5 n ya_kind ya_value up tu de be dk dv o s b) (hyk : yk_ok 5 f 24 ya_kind ya_value up tu de be yki yva yup ytu yde ybe)
    (htc1 : ∀ j, j < f * 42 ∨ f * 42 + 42 ≤ j → tc j = a_typeCodes j) (htc2 : ∀ k, k < cf.length → tc (f * 42 + k) = nI (cf.getD k 0)) (hcs1 : ∀ j, j < 48 * f ∨ 48 * f + 48 ≤ j → cs j = ya_codes j) (hcs2 : ∀ k, k < cf.length → cs (48 * f + k) = nI (cf.getD k 0)) :
    rel_b ki va spA bo bin (upd (upd le f (nI n)) 10 0) (upd a_parameterCounts f (nI P)) tc (upd a_typeLengths f (nI cf.length)) yki yva yup ytu yde ybe (upd (upd yle f (nI n)) 5 0) (upd (upd ya_parameters 5 (nI P)) f (nI P)) cs (upd ya_codeCount f (nI cf.length)) ∧
    (∃ n dk dv, rel_d ki va (upd (upd le f (nI n)) 10 0) yki yva (upd (upd yle f (nI n)) 5 0) n dk dv) ∧
    rel_m f_instanceCount ki va spA bo (upd (upd le f (nI n)) 10 0) (upd a_parameterCounts f (nI P)) tc (upd a_typeLengths f (nI cf.length)) a_instanceFunctions yf_made yf_entry yki yva ybe (upd (upd ya_parameters 5 (nI P)) f (nI P)) ya_ofFunction ya_codeEnd ya_instance := by
  subst hln1
  have hlib1 := lib_drop hf hlib
  have hnew := lib_new hlib1 dp_f hn0 hbd h0 hP2 h10 hop hc hts hcl hc60 hpr
  refine ⟨⟨_, _, _, _, _, _, _, _, _, hnew, fun g hg => ?_, fun g hg => ?_⟩, ⟨0, fun _ => 0, fun _ => 0, pk_us, pk_us, ⟨by omega, fun t ht => by omega⟩, ⟨by omega, fun t ht => by omega⟩⟩, rm_congr hm (fun j j1 j2 => ?_) (fun j j1 j2 => ?_) (fun j hj => htc1 j (by omega)) (fun j hj => pk_un (by omega)) (fun j hj => ?_) (fun j hj => ?_) (fun j hj => ?_)⟩
  · by_cases z : g = f
    · subst z
      simp only [uG_s]
      rw [pk_un (by omega), pk_us, pk_us]
      exact ⟨rfl, hn, fun _ => ⟨rfl, h1', ⟨by omega, by omega, pk_us, fun k hk => ⟨htc2 k hk, by have := hc60 k hk; omega⟩⟩⟩⟩
    · simp only [uG_n z]
      rw [pk_un (by omega), pk_un z, pk_un z]
      have := lx_drop (f := f) (pc' := a_parameterCounts) hlx (fun g => dp_g) h1 h2 (fun _ _ _ => rfl) g hg
      obtain ⟨x1, x2, x3⟩ := this
      refine ⟨x1, x2, fun hl => ?_⟩
      obtain ⟨y1, y2, r1, r2, r3, r4⟩ := x3 hl
      refine ⟨y1, y2, r1, r2, by rw [pk_un z]; exact r3, fun k hk => ?_⟩
      rw [htc1 _ (by omega)]; exact r4 k hk
  · by_cases z : g = f
    · subst z
      simp only [uG_s]
      rw [pk_un (by omega), pk_us, pk_us, pk_us]
      exact ⟨rfl, fun _ => ⟨rfl, yb_copied hbd hyb hyk, rfl, hcs2⟩⟩
    · simp only [uG_n z]
      rw [pk_un (by omega), pk_un z, pk_un z, pk_un (by omega), pk_un z]
      have := ly_drop (f := f) (par' := ya_parameters) (ki' := yki) (va' := yva) (up' := yup) (tu' := ytu) (de' := yde) (be' := ybe) (len' := yle) hlib hly (fun g => dp_g) (fun j j1 j2 => ?_) (fun j j1 j2 => ?_) h5 (fun _ _ _ => rfl) g hg
      · obtain ⟨x1, x2⟩ := this
        refine ⟨x1, fun hl => ?_⟩
        obtain ⟨y1, y2, y3, y4⟩ := x2 hl
        refine ⟨y1, y2, y3, fun k hk => ?_⟩
        have hlen := (hlib1 g hg hl).2.2.2.2.2.2.2.1
        have h2p := (hlib1 g hg hl).2.2.1
        rw [hcs1 _ (by omega)]; exact y4 k hk
      · obtain ⟨a1, a2, a3, a4, a5⟩ := hyk.2.2.1 j j2
        obtain ⟨b1, b2, b3⟩ := h4.1 j (by omega)
        exact ⟨a1, a2, a3.trans b1, a4.trans b2, a5.trans b3⟩
      · exact (hyk.2.2.2 j j2).trans (h4.2 j (by omega))
  · obtain ⟨a, b, c, d, _⟩ := h1 j (by omega)
    exact ⟨a, b, c, d⟩
  · rw [pk_un (by omega), pk_un (by omega), pk_un (by omega), h3 j (by omega)]; exact ⟨rfl, rfl⟩
  · obtain ⟨a1, a2, _⟩ := hyk.2.2.1 j (by omega)
    exact ⟨a1, a2⟩
  · exact (hyk.2.2.2 j (by omega)).trans (h4.2 j (by omega))
  · rw [pk_un (by omega), pk_un (by omega)]
end df

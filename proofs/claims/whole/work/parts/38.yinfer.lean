variable {yf_place yf_points yf_names yf_textEnd yf_made yf_entry yf_waiting yf_values yf_bound yf_cells yf_conses yf_lams yf_steps yf_atWork yf_end yf_writtenCount : Int32} {ya_kind ya_up ya_turn ya_depth ya_value ya_below ya_length ya_parameters ya_codes ya_codeCount ya_form ya_colour ya_same ya_one ya_two ya_todo ya_numbered ya_text ya_ofFunction ya_codeEnd ya_instance ya_token ya_env ya_tag ya_cellEnv ya_boundNext ya_step ya_boundNumber ya_boundTag ya_headTag ya_tailTag ya_number ya_boundValue ya_head ya_tail ya_written : Nat → Int32}
/-- what Y knows of the functions that a body calls -/
def yn_ok (row f n : Nat) (par cn co : Nat → Int32) (kN : Nat → Nat) (vl : Nat → Int32) (oc : Nat → Nat) (cod : Nat → List Nat) : Prop :=
  ∀ t, t < n → kN t = 4 → ∃ g, g < 5 ∧ vl t = nI g ∧ oc t ≤ 2 ∧ (g = f → par row = nI (oc t)) ∧
    (g ≠ f → par g = nI (oc t) ∧ (∃ ts, (∀ t ∈ ts, mt_wf t) ∧ mt_encs ts = cod g ∧ ts.length = oc t + 1) ∧ (cod g).length ≤ 14 * (oc t + 1) ∧ (∀ k, k < (cod g).length → (cod g).getD k 0 < 60) ∧ cn g = nI (cod g).length ∧ ∀ k, k < (cod g).length → co (48 * g + k) = nI ((cod g).getD k 0))
/-- a body's own facts, whoever holds it -/
def bd_ok (n : Nat) (kN : Nat → Nat) (vl : Nat → Int32) (oc sp bd bi : Nat → Nat) : Prop :=
  n ≤ 24 ∧ bw_is n oc sp ∧ sm oc n + 1 = n ∧ tr_ok n kN oc sp bd bi ∧ ∀ t, t < n → kN t ≤ 16 ∧ oc t ≤ 3 ∧ bd t ≤ 12 ∧ bi t ≤ t ∧ (kN t ≠ 4 → oc t = ar (kN t)) ∧
    (kN t = 3 → ∃ v, v < 10 ∧ vl t = nI v ∧ v < bd t ∧ vw bi bd (bi t) (bi t) v < 74)
theorem pj_y {N : Nat} {C C' S rule : (Nat → mt_T) → Prop} (hN : 74 ≤ N) (hp : pj_is 74 C S) (hst : ys_ok N C C' rule) (hd : ∀ r r', (∀ n, n < 74 → r' n = r n) → rule r → rule r') : pj_is 74 C' (fun r => S r ∧ rule r) := by
  refine ⟨fun r hw h => ?_, fun r hw h => ?_⟩
  · obtain ⟨a, b⟩ := hst.1 r hw h
    exact ⟨hp.1 r hw a, b⟩
  · obtain ⟨r0, w0, s0, e0⟩ := hp.2 r hw h.1
    obtain ⟨r1, w1, e1, s1⟩ := hst.2 r0 w0 s0 (hd r r0 e0 h.2)
    exact ⟨r1, w1, s1, fun n hn => by rw [e1 n (by omega), e0 n hn]⟩
theorem ru_t_dep2 {f n : Nat} {kN : Nat → Nat} {vl : Nat → Int32} {oc sp bd bi : Nat → Nat} {cod : Nat → List Nat} {t : Nat} (hb : bd_ok n kN vl oc sp bd bi) (ht : t < n) (h4 : kN t = 4 → oc t ≤ 2) {r r' : Nat → mt_T}
    (e : ∀ n, n < 74 → r' n = r n) (h : ru_t f kN vl oc sp bd bi cod t r) : ru_t f kN vl oc sp bd bi cod t r' := by
  obtain ⟨n24, bw, _, _, hbt⟩ := hb
  obtain ⟨b1, b2, b3, b4, b5, b6⟩ := hbt t ht
  refine ru_dep b1 (by omega) (fun j hj => ?_) (fun z => ?_) h4 e h
  · have : j < oc t := by
      by_cases z : kN t = 4
      · rw [if_pos z] at hj; exact hj
      · rw [if_neg z] at hj; rw [b5 z]; exact hj
    have := (bw_in bw ht this).2.2
    omega
  · obtain ⟨v, v1, v2, v3, v4⟩ := b6 z
    rw [v2, nI_clamp (by omega)]; exact v4
theorem y_infer2 {post : Int32 → SY → Prop} {row f n : Nat} {kN : Nat → Nat} {vl : Nat → Int32} {oc sp bd bi : Nat → Nat} {cod : Nat → List Nat} {S0 : (Nat → mt_T) → Prop} (hrow : row ≤ 10) (hf : f < 5) (hl : ya_length row = nI n)
    (hbd : bd_ok n kN vl oc sp bd bi) (hb : yb_ok row n ya_kind ya_value ya_up ya_turn ya_depth ya_below kN vl oc sp bd) (hfn : yn_ok row f n ya_parameters ya_codeCount ya_codes kN vl oc cod)
    (hPs : ∀ N fo sa on tw co td nu K L R rt ds c, 74 ≤ N → N ≤ 780 → yg_ok N fo sa on tw K L R rt ds → mg_is N (gr_sat N K L R) c → (∀ n, n < N → K n = 10 → c n = .leaf (10 + n)) → pj_is 74 (gr_sat N K L R) (S_t S0 f kN vl oc sp bd bi cod n) →
      post (-1) (yf_place, (nI N), yf_names, yf_textEnd, yf_made, yf_entry, yf_waiting, yf_values, yf_bound, yf_cells, yf_conses, yf_lams, yf_steps, yf_atWork, yf_end, yf_writtenCount, ya_kind, ya_up, ya_turn, ya_depth, ya_value, ya_below, ya_length, ya_parameters, ya_codes, ya_codeCount, fo, co, sa, on, tw, td, nu, ya_text, ya_ofFunction, ya_codeEnd, ya_instance, ya_token, ya_env, ya_tag, ya_cellEnv, ya_boundNext, ya_step, ya_boundNumber, ya_boundTag, ya_headTag, ya_tailTag, ya_number, ya_boundValue, ya_head, ya_tail, ya_written))
    (hPf : ∀ t N fo sa on tw co td nu, t < n → (t = 0 ∨ ∃ r, (∀ n, mt_wf (r n)) ∧ S_t S0 f kN vl oc sp bd bi cod t r) → (∀ r, (∀ n, mt_wf (r n)) → ¬ S_t S0 f kN vl oc sp bd bi cod (t + 1) r) →
      post (nI t) (yf_place, (nI N), yf_names, yf_textEnd, yf_made, yf_entry, yf_waiting, yf_values, yf_bound, yf_cells, yf_conses, yf_lams, yf_steps, yf_atWork, yf_end, yf_writtenCount, ya_kind, ya_up, ya_turn, ya_depth, ya_value, ya_below, ya_length, ya_parameters, ya_codes, ya_codeCount, fo, co, sa, on, tw, td, nu, ya_text, ya_ofFunction, ya_codeEnd, ya_instance, ya_token, ya_env, ya_tag, ya_cellEnv, ya_boundNext, ya_step, ya_boundNumber, ya_boundTag, ya_headTag, ya_tailTag, ya_number, ya_boundValue, ya_head, ya_tail, ya_written)) :
    ∀ q t fu N fo sa on tw co td nu K L R rt ds, t + q = n → q < fu → 74 ≤ N → N ≤ 116 + 14 * (sm oc t + t) → yg_ok N fo sa on tw K L R rt ds → pj_is 74 (gr_sat N K L R) (S_t S0 f kN vl oc sp bd bi cod t) →
      (t = 0 ∨ ∃ c, mg_is N (gr_sat N K L R) c ∧ (∀ n, n < N → K n = 10 → c n = .leaf (10 + n))) →
      wY_infer_2 post (nI row) (nI f) fu (nI t) yf_place (nI N) yf_names yf_textEnd yf_made yf_entry yf_waiting yf_values yf_bound yf_cells yf_conses yf_lams yf_steps yf_atWork yf_end yf_writtenCount ya_kind ya_up ya_turn ya_depth ya_value ya_below ya_length ya_parameters ya_codes ya_codeCount fo co sa on tw td nu ya_text ya_ofFunction ya_codeEnd ya_instance ya_token ya_env ya_tag ya_cellEnv ya_boundNext ya_step ya_boundNumber ya_boundTag ya_headTag ya_tailTag ya_number ya_boundValue ya_head ya_tail ya_written := by
  have hbd' := hbd
  obtain ⟨n24, bw, hsum, htr, hbt⟩ := hbd'
  have hn0 : 0 < n := bw.1
  intro q
  induction q with
  | zero =>
    intro t fu N fo sa on tw co td nu K L R rt ds ht hfu hN1 hN2 hg hp hc
    obtain ⟨fu, rfl⟩ : ∃ g, fu = g + 1 := ⟨fu - 1, by omega⟩
    have e : t = n := by omega
    subst e
    refine And.intro (pk_in row 11 (by omega)) ?_
    rw [nI_clamp (n := row) (by omega), hl]
    rcases hc with z | ⟨c, c1, c2⟩
    · omega
    · exact br_t (nI_le (Nat.le_refl _) (by omega)) (hPs N fo sa on tw co td nu K L R rt ds c hN1 (by omega) hg c1 c2 hp)
  | succ q ih =>
    intro t fu N fo sa on tw co td nu K L R rt ds ht hfu hN1 hN2 hg hp hc
    obtain ⟨fu, rfl⟩ : ∃ g, fu = g + 1 := ⟨fu - 1, by omega⟩
    have htn : t < n := by omega
    obtain ⟨b1, b2, b3, b4, b5, b6⟩ := hbt t htn
    have hso : sm oc (t + 1) = sm oc t + oc t := rfl
    have hmono := sm_mono (g := oc) (a := t + 1) n (by omega)
    have hsat : t = 0 ∨ ∃ r, (∀ n, mt_wf (r n)) ∧ S_t S0 f kN vl oc sp bd bi cod t r := by
      rcases hc with z | ⟨c, c1, _⟩
      · exact Or.inl z
      · exact Or.inr ⟨c, c1.1, hp.1 c c1.1 (mg_self c1)⟩
    have h42 : kN t = 4 → oc t ≤ 2 := fun z => by obtain ⟨g, _, _, h, _⟩ := hfn t htn z; exact h
    refine And.intro (pk_in row 11 (by omega)) ?_
    rw [nI_clamp (n := row) (by omega), hl]
    refine br_f (nI_ge (by omega) (by omega)) ?_
    have post' : ys_post (fun r_3 u => match u with | (yf_place, yf_points, yf_names, yf_textEnd, yf_made, yf_entry, yf_waiting, yf_values, yf_bound, yf_cells, yf_conses, yf_lams, yf_steps, yf_atWork, yf_end, yf_writtenCount, ya_kind, ya_up, ya_turn, ya_depth, ya_value, ya_below, ya_length, ya_parameters, ya_codes, ya_codeCount, ya_form, ya_colour, ya_same, ya_one, ya_two, ya_todo, ya_numbered, ya_text, ya_ofFunction, ya_codeEnd, ya_instance, ya_token, ya_env, ya_tag, ya_cellEnv, ya_boundNext, ya_step, ya_boundNumber, ya_boundTag, ya_headTag, ya_tailTag, ya_number, ya_boundValue, ya_head, ya_tail, ya_written) => (r_3 = 0 → wY_infer_32 post (wY_infer_2 post (nI row) (nI f) fu) (nI row) (nI f) (nI t) r_3 yf_place yf_points yf_names yf_textEnd yf_made yf_entry yf_waiting yf_values yf_bound yf_cells yf_conses yf_lams yf_steps yf_atWork yf_end yf_writtenCount ya_kind ya_up ya_turn ya_depth ya_value ya_below ya_length ya_parameters ya_codes ya_codeCount ya_form ya_colour ya_same ya_one ya_two ya_todo ya_numbered ya_text ya_ofFunction ya_codeEnd ya_instance ya_token ya_env ya_tag ya_cellEnv ya_boundNext ya_step ya_boundNumber ya_boundTag ya_headTag ya_tailTag ya_number ya_boundValue ya_head ya_tail ya_written) ∧ (¬ r_3 = 0 → wpY_finite (fun r_59 u => match u with | (yf_place, yf_points, yf_names, yf_textEnd, yf_made, yf_entry, yf_waiting, yf_values, yf_bound, yf_cells, yf_conses, yf_lams, yf_steps, yf_atWork, yf_end, yf_writtenCount, ya_kind, ya_up, ya_turn, ya_depth, ya_value, ya_below, ya_length, ya_parameters, ya_codes, ya_codeCount, ya_form, ya_colour, ya_same, ya_one, ya_two, ya_todo, ya_numbered, ya_text, ya_ofFunction, ya_codeEnd, ya_instance, ya_token, ya_env, ya_tag, ya_cellEnv, ya_boundNext, ya_step, ya_boundNumber, ya_boundTag, ya_headTag, ya_tailTag, ya_number, ya_boundValue, ya_head, ya_tail, ya_written) => wY_infer_32 post (wY_infer_2 post (nI row) (nI f) fu) (nI row) (nI f) (nI t) r_59 yf_place yf_points yf_names yf_textEnd yf_made yf_entry yf_waiting yf_values yf_bound yf_cells yf_conses yf_lams yf_steps yf_atWork yf_end yf_writtenCount ya_kind ya_up ya_turn ya_depth ya_value ya_below ya_length ya_parameters ya_codes ya_codeCount ya_form ya_colour ya_same ya_one ya_two ya_todo ya_numbered ya_text ya_ofFunction ya_codeEnd ya_instance ya_token ya_env ya_tag ya_cellEnv ya_boundNext ya_step ya_boundNumber ya_boundTag ya_headTag ya_tailTag ya_number ya_boundValue ya_head ya_tail ya_written) (yf_place, yf_points, yf_names, yf_textEnd, yf_made, yf_entry, yf_waiting, yf_values, yf_bound, yf_cells, yf_conses, yf_lams, yf_steps, yf_atWork, yf_end, yf_writtenCount, ya_kind, ya_up, ya_turn, ya_depth, ya_value, ya_below, ya_length, ya_parameters, ya_codes, ya_codeCount, ya_form, ya_colour, ya_same, ya_one, ya_two, ya_todo, ya_numbered, ya_text, ya_ofFunction, ya_codeEnd, ya_instance, ya_token, ya_env, ya_tag, ya_cellEnv, ya_boundNext, ya_step, ya_boundNumber, ya_boundTag, ya_headTag, ya_tailTag, ya_number, ya_boundValue, ya_head, ya_tail, ya_written))) N (N + 14 * (oc t + 1))
        yf_place (nI N) yf_names yf_textEnd yf_made yf_entry yf_waiting yf_values yf_bound yf_cells yf_conses yf_lams yf_steps yf_atWork yf_end yf_writtenCount ya_kind ya_up ya_turn ya_depth ya_value ya_below ya_length ya_parameters ya_codes ya_codeCount fo co sa on tw td nu ya_text ya_ofFunction ya_codeEnd ya_instance ya_token ya_env ya_tag ya_cellEnv ya_boundNext ya_step ya_boundNumber ya_boundTag ya_headTag ya_tailTag ya_number ya_boundValue ya_head ya_tail ya_written (gr_sat N K L R) (ru_t f kN vl oc sp bd bi cod t) := by
      refine ⟨fun N' fo' sa' on' tw' td' nu' C' h1 h2 hg' hs' => ?_, fun N' fo' sa' on' tw' td' nu' hno => ?_⟩
      · obtain ⟨K', L', R', rt', ds', g', e'⟩ := hg'
        have hpj := pj_y hN1 hp hs' (fun r r' e h => ru_t_dep2 hbd htn h42 e h)
        have hpj1 : pj_is 74 (gr_sat N' K' L' R') (S_t S0 f kN vl oc sp bd bi cod (t + 1)) :=
          ⟨fun r hw h => S_s.mpr (hpj.1 r hw ((e' r).mp h)), fun r hw h => by obtain ⟨r', a, b, c⟩ := hpj.2 r hw (S_s.mp h); exact ⟨r', a, (e' r').mpr b, c⟩⟩
        refine br_f n1_0 (y_finite (by omega) g' (fun co' td2 c m1 m2 => ?_) (fun co' td2 hno => ?_))
        · refine br_f n1_0 (nm_r (nI_1 t) ?_)
          exact ih (t + 1) fu N' fo' sa' on' tw' co' td2 nu' K' L' R' rt' ds' (by omega) (by omega) (by omega) (by omega) g' hpj1 (Or.inr ⟨c, m1, m2⟩)
        · refine br_t rfl (hPf t N' fo' sa' on' tw' co' td2 nu' htn hsat (fun r hw h => ?_))
          obtain ⟨r', _, s', _⟩ := hpj1.2 r hw h
          exact hno r' s'
      · refine br_t rfl (br_t rfl (hPf t N' fo' sa' on' tw' co td' nu' htn hsat (fun r hw h => ?_)))
        obtain ⟨s1, s2⟩ := S_s.mp h
        obtain ⟨r0, w0, g0, e0⟩ := hp.2 r hw s1
        exact hno r0 w0 g0 (ru_t_dep2 hbd htn h42 e0 s2)
    by_cases z4 : kN t = 4
    · obtain ⟨g, g1, g2, g3, g4, g5⟩ := hfn t htn z4
      have cg : (vl t).toNatClampNeg = g := by rw [g2]; exact nI_clamp (by omega)
      by_cases own : g = f
      · refine y_rule (row := row) (n := n) (M := N + 14 * (oc t + 1)) (g := g) (P := oc t) (own := decide ((vl t).toNatClampNeg = f)) (Lc := cod (vl t).toNatClampNeg) (ts := []) (bi := bi) (w := vw bi bd (bi t) (bi t) (vl t).toNatClampNeg) hN1 (by omega) (fun _ z => ?_) (by omega) hrow n24 htn hf hb htr bw (fun t ht => (hbt t ht).2.1) (fun t ht => (hbt t ht).1) (fun t ht => (hbt t ht).2.2.1) (fun t ht => (hbt t ht).2.2.2.1) b5 (fun z => absurd z (by omega)) (fun _ => ⟨g1, g3, rfl, g2, ?_, fun _ => g4 own, fun z => ?_, fun z => ?_⟩) (yc_of hg) post'
        · rw [cg, decide_eq_true own] at z; exact absurd z (by decide)
        · rw [cg]; simp
        · rw [cg, decide_eq_true own] at z; exact absurd z (by decide)
        · rw [cg, decide_eq_true own] at z; exact absurd z (by decide)
      · obtain ⟨p1, ⟨ts, t1, t2, t3⟩, p3, p4, p5, p6⟩ := g5 own
        refine y_rule (row := row) (n := n) (M := N + 14 * (oc t + 1)) (g := g) (P := oc t) (own := decide ((vl t).toNatClampNeg = f)) (Lc := cod (vl t).toNatClampNeg) (ts := ts) (bi := bi) (w := vw bi bd (bi t) (bi t) (vl t).toNatClampNeg) hN1 (by omega) (fun _ _ => ?_) (by omega) hrow n24 htn hf hb htr bw (fun t ht => (hbt t ht).2.1) (fun t ht => (hbt t ht).1) (fun t ht => (hbt t ht).2.2.1) (fun t ht => (hbt t ht).2.2.2.1) b5 (fun z => absurd z (by omega)) (fun _ => ⟨g1, g3, rfl, g2, ?_, fun z => ?_, fun _ => p1, fun _ => ?_⟩) (yc_of hg) post'
        · rw [cg]; omega
        · rw [cg]; simp
        · rw [cg, decide_eq_false own] at z; exact absurd z (by decide)
        · rw [cg]; exact ⟨t1, t2, t3, by omega, p4, p5, p6⟩
    · refine y_rule (row := row) (n := n) (M := N + 14 * (oc t + 1)) (g := 0) (P := oc t) (own := decide ((vl t).toNatClampNeg = f)) (Lc := cod (vl t).toNatClampNeg) (ts := []) (bi := bi) (w := vw bi bd (bi t) (bi t) (vl t).toNatClampNeg) hN1 (by omega) (fun z => absurd z z4) (by omega) hrow n24 htn hf hb htr bw (fun t ht => (hbt t ht).2.1) (fun t ht => (hbt t ht).1) (fun t ht => (hbt t ht).2.2.1) (fun t ht => (hbt t ht).2.2.2.1) b5 (fun z => ?_) (fun z => absurd z z4) (yc_of hg) post'
      obtain ⟨v, v1, v2, v3, v4⟩ := b6 z
      have cv : (vl t).toNatClampNeg = v := by rw [v2]; exact nI_clamp (by omega)
      exact ⟨v, v1, v2, by rw [cv], by rw [cv]; exact v4⟩

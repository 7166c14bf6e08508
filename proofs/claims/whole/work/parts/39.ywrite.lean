variable {yf_place yf_points yf_names yf_textEnd yf_made yf_entry yf_waiting yf_values yf_bound yf_cells yf_conses yf_lams yf_steps yf_atWork yf_end yf_writtenCount : Int32} {ya_kind ya_up ya_turn ya_depth ya_value ya_below ya_length ya_parameters ya_codes ya_codeCount ya_form ya_colour ya_same ya_one ya_two ya_todo ya_numbered ya_text ya_ofFunction ya_codeEnd ya_instance ya_token ya_env ya_tag ya_cellEnv ya_boundNext ya_step ya_boundNumber ya_boundTag ya_headTag ya_tailTag ya_number ya_boundValue ya_head ya_tail ya_written : Nat → Int32}
/-- the nodes that have a number -/
def nb_ok (N : Nat) (vs : List Nat) (nu : Nat → Int32) : Prop := ∀ k, k < vs.length → 10 ≤ vs.getD k 0 ∧ vs.getD k 0 < 10 + N ∧ nu k = nI (vs.getD k 0 - 10)
theorem nb_new {N x : Nat} {vs : List Nat} {nu : Nat → Int32} (h : nb_ok N vs nu) (hx : x < N) : nb_ok N (vs ++ [10 + x]) (upd nu vs.length (nI x)) := by
  intro k hk
  rw [List.length_append] at hk
  simp only [List.length_cons, List.length_nil] at hk
  by_cases z : k = vs.length
  · subst z
    have e : (vs ++ [10 + x]).getD vs.length 0 = 10 + x := by
      have := gd_r [10 + x] 0 0 vs
      rw [Nat.zero_add] at this; rw [this]; rfl
    rw [e, pk_us]
    exact ⟨by omega, by omega, congrArg nI (by omega)⟩
  · have e : (vs ++ [10 + x]).getD k 0 = vs.getD k 0 := by
      simp [List.getD_eq_getElem?_getD, List.getElem?_append_left (show k < vs.length by omega)]
    rw [e, pk_un z]; exact h k (by omega)
theorem y_nameOf2 {post : Int32 → SY → Prop} {N x : Nat} {vs : List Nat} (hN : N ≤ 900) (hv : vs.length < 50) (hx : x < N) (hnb : nb_ok N vs ya_numbered)
    (hin : 10 + x ∈ vs → post (nI (cn_ix (10 + x) vs)) (yf_place, yf_points, (nI vs.length), yf_textEnd, yf_made, yf_entry, yf_waiting, yf_values, yf_bound, yf_cells, yf_conses, yf_lams, yf_steps, yf_atWork, yf_end, yf_writtenCount, ya_kind, ya_up, ya_turn, ya_depth, ya_value, ya_below, ya_length, ya_parameters, ya_codes, ya_codeCount, ya_form, ya_colour, ya_same, ya_one, ya_two, ya_todo, ya_numbered, ya_text, ya_ofFunction, ya_codeEnd, ya_instance, ya_token, ya_env, ya_tag, ya_cellEnv, ya_boundNext, ya_step, ya_boundNumber, ya_boundTag, ya_headTag, ya_tailTag, ya_number, ya_boundValue, ya_head, ya_tail, ya_written)) (hnew : ¬ 10 + x ∈ vs → post (nI vs.length) (yf_place, yf_points, (nI (vs.length + 1)), yf_textEnd, yf_made, yf_entry, yf_waiting, yf_values, yf_bound, yf_cells, yf_conses, yf_lams, yf_steps, yf_atWork, yf_end, yf_writtenCount, ya_kind, ya_up, ya_turn, ya_depth, ya_value, ya_below, ya_length, ya_parameters, ya_codes, ya_codeCount, ya_form, ya_colour, ya_same, ya_one, ya_two, ya_todo, (upd ya_numbered vs.length (nI x)), ya_text, ya_ofFunction, ya_codeEnd, ya_instance, ya_token, ya_env, ya_tag, ya_cellEnv, ya_boundNext, ya_step, ya_boundNumber, ya_boundTag, ya_headTag, ya_tailTag, ya_number, ya_boundValue, ya_head, ya_tail, ya_written)) :
    ∀ f i, i ≤ vs.length → vs.length < f + i → (∀ j, j < i → vs.getD j 0 ≠ 10 + x) → wY_nameOf_2 post (nI x) yf_place yf_points (nI vs.length) yf_textEnd yf_made yf_entry yf_waiting yf_values yf_bound yf_cells yf_conses yf_lams yf_steps yf_atWork yf_end yf_writtenCount ya_kind ya_up ya_turn ya_depth ya_value ya_below ya_length ya_parameters ya_codes ya_codeCount ya_form ya_colour ya_same ya_one ya_two ya_todo ya_numbered ya_text ya_ofFunction ya_codeEnd ya_instance ya_token ya_env ya_tag ya_cellEnv ya_boundNext ya_step ya_boundNumber ya_boundTag ya_headTag ya_tailTag ya_number ya_boundValue ya_head ya_tail ya_written f (nI i) := by
  intro f
  induction f with
  | zero => intro i h1 h2; omega
  | succ f ih =>
    intro i h1 h2 hj
    refine pk_le vs.length i (fun h => ?_) (fun h => And.intro (pk_in i 50 (by omega)) ?_)
    · have hn : ¬ 10 + x ∈ vs := by
        intro hm
        exact hj _ (by have := cn_ix_lt vs hm; omega) (cn_ix_get vs hm)
      exact And.intro (pk_in vs.length 50 hv) (nm_r (e' := upd ya_numbered vs.length (nI x)) (by rw [nI_clamp (by omega), nr_s (by omega)]) (nm_r (nI_1 _) (hnew hn)))
    · obtain ⟨n1, n2, n3⟩ := hnb i h
      rw [nI_clamp (by omega), n3]
      refine pk_eq (vs.getD i 0 - 10) x (fun e => ?_) (fun e => nm_r (nI_1 i) (ih (i + 1) (by omega) (by omega) (fun j hj' => ?_)))
      · have ev : vs.getD i 0 = 10 + x := by omega
        have hm : 10 + x ∈ vs := by rw [← ev]; exact gd_mem vs i h
        have ei : cn_ix (10 + x) vs = i := by
          have a := cn_ix_min vs i h ev
          rcases Nat.lt_or_ge (cn_ix (10 + x) vs) i with z | z
          · exact absurd (cn_ix_get vs hm) (hj _ z)
          · omega
        have := hin hm
        rw [ei] at this; exact this
      · by_cases z : j = i
        · subst z; omega
        · exact hj j (by omega)
theorem y_nameOf {post : Int32 → SY → Prop} {N x : Nat} {vs : List Nat} (hN : N ≤ 900) (hv : vs.length < 50) (hx : x < N) (hnb : nb_ok N vs ya_numbered)
    (hin : 10 + x ∈ vs → post (nI (cn_ix (10 + x) vs)) (yf_place, yf_points, (nI vs.length), yf_textEnd, yf_made, yf_entry, yf_waiting, yf_values, yf_bound, yf_cells, yf_conses, yf_lams, yf_steps, yf_atWork, yf_end, yf_writtenCount, ya_kind, ya_up, ya_turn, ya_depth, ya_value, ya_below, ya_length, ya_parameters, ya_codes, ya_codeCount, ya_form, ya_colour, ya_same, ya_one, ya_two, ya_todo, ya_numbered, ya_text, ya_ofFunction, ya_codeEnd, ya_instance, ya_token, ya_env, ya_tag, ya_cellEnv, ya_boundNext, ya_step, ya_boundNumber, ya_boundTag, ya_headTag, ya_tailTag, ya_number, ya_boundValue, ya_head, ya_tail, ya_written)) (hnew : ¬ 10 + x ∈ vs → post (nI vs.length) (yf_place, yf_points, (nI (vs.length + 1)), yf_textEnd, yf_made, yf_entry, yf_waiting, yf_values, yf_bound, yf_cells, yf_conses, yf_lams, yf_steps, yf_atWork, yf_end, yf_writtenCount, ya_kind, ya_up, ya_turn, ya_depth, ya_value, ya_below, ya_length, ya_parameters, ya_codes, ya_codeCount, ya_form, ya_colour, ya_same, ya_one, ya_two, ya_todo, (upd ya_numbered vs.length (nI x)), ya_text, ya_ofFunction, ya_codeEnd, ya_instance, ya_token, ya_env, ya_tag, ya_cellEnv, ya_boundNext, ya_step, ya_boundNumber, ya_boundTag, ya_headTag, ya_tailTag, ya_number, ya_boundValue, ya_head, ya_tail, ya_written)) :
    wpY_nameOf post (yf_place, yf_points, (nI vs.length), yf_textEnd, yf_made, yf_entry, yf_waiting, yf_values, yf_bound, yf_cells, yf_conses, yf_lams, yf_steps, yf_atWork, yf_end, yf_writtenCount, ya_kind, ya_up, ya_turn, ya_depth, ya_value, ya_below, ya_length, ya_parameters, ya_codes, ya_codeCount, ya_form, ya_colour, ya_same, ya_one, ya_two, ya_todo, ya_numbered, ya_text, ya_ofFunction, ya_codeEnd, ya_instance, ya_token, ya_env, ya_tag, ya_cellEnv, ya_boundNext, ya_step, ya_boundNumber, ya_boundTag, ya_headTag, ya_tailTag, ya_number, ya_boundValue, ya_head, ya_tail, ya_written) (nI x) := Exists.intro (vs.length + 1) (y_nameOf2 hN hv hx hnb hin hnew (vs.length + 1) 0 (by omega) (by omega) (fun j hj => by omega))
theorem y_wr16 {post : Int32 → SY → Prop} {N fr : Nat} {cl : Bool} {x2 : Int32} {K : Nat → Int32} {L R rt ds : Nat → Nat} {c : Nat → mt_T} {OUT VS : List Nat} (hN : N ≤ 900) (hfr : fr ≤ 30) (hx2 : x2 = if cl then 0 else 1) (hO2 : ∀ k, k < OUT.length → OUT.getD k 0 < 100)
    (hg : yg_ok N ya_form ya_same ya_one ya_two K L R rt ds) (hc : ∀ n, n < N → c n = c (rt n)) (hcr : ∀ n, n < N → K n ≠ 5 → (K n = 10 → c n = .leaf (10 + n)) ∧ (K n ≠ 10 → c n = gr_at K L R c n))
    (hP1 : ∀ nm td nu tx, OUT.length ≤ 14 → (cl = false → nm = nI VS.length ∧ nb_ok N VS nu) → (cl = true → nm = yf_names ∧ nu = ya_numbered) → (∀ i, i < OUT.length → tx (fr + i) = nI (OUT.getD i 0)) → (∀ i, i < fr → tx i = ya_text i) →
      post 1 (yf_place, yf_points, nm, (nI (fr + OUT.length)), yf_made, yf_entry, yf_waiting, yf_values, yf_bound, yf_cells, yf_conses, yf_lams, yf_steps, yf_atWork, yf_end, yf_writtenCount, ya_kind, ya_up, ya_turn, ya_depth, ya_value, ya_below, ya_length, ya_parameters, ya_codes, ya_codeCount, ya_form, ya_colour, ya_same, ya_one, ya_two, td, nu, tx, ya_ofFunction, ya_codeEnd, ya_instance, ya_token, ya_env, ya_tag, ya_cellEnv, ya_boundNext, ya_step, ya_boundNumber, ya_boundTag, ya_headTag, ya_tailTag, ya_number, ya_boundValue, ya_head, ya_tail, ya_written))
    (hP0 : ∀ nm td nu tx, 14 < OUT.length → post 0 (yf_place, yf_points, nm, (nI (fr + 15)), yf_made, yf_entry, yf_waiting, yf_values, yf_bound, yf_cells, yf_conses, yf_lams, yf_steps, yf_atWork, yf_end, yf_writtenCount, ya_kind, ya_up, ya_turn, ya_depth, ya_value, ya_below, ya_length, ya_parameters, ya_codes, ya_codeCount, ya_form, ya_colour, ya_same, ya_one, ya_two, td, nu, tx, ya_ofFunction, ya_codeEnd, ya_instance, ya_token, ya_env, ya_tag, ya_cellEnv, ya_boundNext, ya_step, ya_boundNumber, ya_boundTag, ya_headTag, ya_tailTag, ya_number, ya_boundValue, ya_head, ya_tail, ya_written)) :
    ∀ q fu k h st vs nm td nu tx, k + q = 15 → q < fu → OUT.drop k = wr_f cl vs (mt_encs (st.map c)) → k ≤ OUT.length → sk_ok N h td st → h ≤ k + 1 → (cl = false → nm = nI vs.length ∧ nb_ok N vs nu) → (cl = true → nm = yf_names ∧ nu = ya_numbered) → (cl = false → cn_seen vs (mt_encs (st.map c)) = VS) → vs.length ≤ 28 + k →
      (∀ i, i < k → tx (fr + i) = nI (OUT.getD i 0)) → (∀ i, i < fr → tx i = ya_text i) →
      wY_write_16 post x2 (nI fr) fu (nI h) yf_place yf_points nm (nI (fr + k)) yf_made yf_entry yf_waiting yf_values yf_bound yf_cells yf_conses yf_lams yf_steps yf_atWork yf_end yf_writtenCount ya_kind ya_up ya_turn ya_depth ya_value ya_below ya_length ya_parameters ya_codes ya_codeCount ya_form ya_colour ya_same ya_one ya_two td nu tx ya_ofFunction ya_codeEnd ya_instance ya_token ya_env ya_tag ya_cellEnv ya_boundNext ya_step ya_boundNumber ya_boundTag ya_headTag ya_tailTag ya_number ya_boundValue ya_head ya_tail ya_written := by
  have esub : ∀ k, nI (fr + k) - nI fr = nI k := fun k => by rw [pk_sub (by omega)]; exact congrArg nI (by omega)
  have olen : ∀ k vs (st : List Nat), OUT.drop k = wr_f cl vs (mt_encs (st.map c)) → OUT.length - k = (mt_encs (st.map c)).length := by
    intro k vs st h
    have e := congrArg List.length h
    have el : (wr_f cl vs (mt_encs (st.map c))).length = (mt_encs (st.map c)).length := by
      unfold wr_f
      cases cl
      · rw [if_neg (by decide), cn_go_map, List.length_map]
      · rw [if_pos rfl, cl_0, List.length_map]
    rw [List.length_drop, el] at e; exact e
  -- the stack is empty
  have emp : ∀ k h vs nm td nu tx, k ≤ 15 → OUT.drop k = wr_f cl vs (mt_encs (([] : List Nat).map c)) → k ≤ OUT.length → (cl = false → nm = nI vs.length ∧ nb_ok N vs nu) → (cl = true → nm = yf_names ∧ nu = ya_numbered) → (cl = false → cn_seen vs (mt_encs (([] : List Nat).map c)) = VS) → h = 0 →
      (∀ i, i < k → tx (fr + i) = nI (OUT.getD i 0)) → (∀ i, i < fr → tx i = ya_text i) → wY_write_158 post (nI fr) yf_place yf_points nm (nI (fr + k)) yf_made yf_entry yf_waiting yf_values yf_bound yf_cells yf_conses yf_lams yf_steps yf_atWork yf_end yf_writtenCount ya_kind ya_up ya_turn ya_depth ya_value ya_below ya_length ya_parameters ya_codes ya_codeCount ya_form ya_colour ya_same ya_one ya_two td nu tx ya_ofFunction ya_codeEnd ya_instance ya_token ya_env ya_tag ya_cellEnv ya_boundNext ya_step ya_boundNumber ya_boundTag ya_headTag ya_tailTag ya_number ya_boundValue ya_head ya_tail ya_written := by
    intro k h vs nm td nu tx hk hdr hkO h1 h2 h3 _ h4 h5
    have ek : k = OUT.length := by have := olen k vs [] hdr; simp only [List.map_nil, mt_encs, List.length_nil] at this; omega
    unfold wY_write_158
    rw [esub]
    refine pk_le 15 k (fun z => ?_) (fun z => ?_)
    · have : fr + k = fr + 15 := by omega
      rw [this]; exact hP0 nm td nu tx (by omega)
    · rw [ek]
      refine hP1 nm td nu tx (by omega) (fun z => ?_) h2 (fun i hi => h4 i (by omega)) h5
      have e := h3 z
      simp only [List.map_nil, mt_encs, cn_seen] at e
      rw [← e]; exact h1 z
  intro q
  induction q with
  | zero =>
    intro fu k h st vs nm td nu tx hq hfu hdr hk hs hh hn1 hn2 hvs hvl ht1 ht2
    obtain ⟨fu, rfl⟩ : ∃ g, fu = g + 1 := ⟨fu - 1, by omega⟩
    have k15 : k = 15 := by omega
    subst k15
    have fin : wY_write_158 post (nI fr) yf_place yf_points nm (nI (fr + 15)) yf_made yf_entry yf_waiting yf_values yf_bound yf_cells yf_conses yf_lams yf_steps yf_atWork yf_end yf_writtenCount ya_kind ya_up ya_turn ya_depth ya_value ya_below ya_length ya_parameters ya_codes ya_codeCount ya_form ya_colour ya_same ya_one ya_two td nu tx ya_ofFunction ya_codeEnd ya_instance ya_token ya_env ya_tag ya_cellEnv ya_boundNext ya_step ya_boundNumber ya_boundTag ya_headTag ya_tailTag ya_number ya_boundValue ya_head ya_tail ya_written := by
      unfold wY_write_158
      rw [esub]
      exact br_t (by decide) (hP0 nm td nu tx (by omega))
    refine br_c (fun _ => fin) (fun _ => ?_)
    rw [esub]
    exact br_t (by decide) fin
  | succ q ih =>
    intro fu k h st vs nm td nu tx hq hfu hdr hk hs hh hn1 hn2 hvs hvl ht1 ht2
    obtain ⟨fu, rfl⟩ : ∃ g, fu = g + 1 := ⟨fu - 1, by omega⟩
    cases st with
    | nil =>
      have h0 : h = 0 := hs.1.symm
      subst h0
      exact br_t (by decide) (emp k 0 vs nm td nu tx (by omega) hdr hk hn1 hn2 hvs rfl ht1 ht2)
    | cons n0 st =>
      obtain ⟨h, rfl⟩ : ∃ g, h = g + 1 := ⟨h - 1, by have := hs.1; simp only [List.length_cons] at this; omega⟩
      obtain ⟨s1, s2, s3⟩ := sk_pop hs
      obtain ⟨x1, x2', _, _, _⟩ := hg.2 n0 s2
      have hcn := hc n0 s2
      have hdr' : OUT.drop k = wr_f cl vs (mt_enc (c (rt n0)) ++ mt_encs (st.map c)) := by rw [hdr, List.map_cons, mt_encs, hcn]
      have hvs' : cl = false → cn_seen vs (mt_enc (c (rt n0)) ++ mt_encs (st.map c)) = VS := fun z => by have := hvs z; rw [List.map_cons, mt_encs, hcn] at this; exact this
      refine br_f (nI_nle (by omega) (by omega)) ?_
      rw [esub]
      refine br_f (nI_ge (b := 15) (by omega) (by omega)) (nm_r (pk_m1 h) (And.intro (pk_in h 1500 (by omega)) ?_))
      rw [nI_clamp (n := h) (by omega), s1]
      refine y_find hN hg s2 ?_
      obtain ⟨kd, _, _, kv, kc, kl, kr, _⟩ := hg.1 (rt n0) x1
      obtain ⟨cv, cc⟩ := hcr (rt n0) x1 x2'
      generalize rt n0 = x at *
      have cx : (nI x).toNatClampNeg = x := nI_clamp (by omega)
      refine And.intro (pk_in x 900 (by omega)) (nm_r (e' := ya_form x) (by rw [cx]) ?_)
      -- a code is written, what is below the node is pushed
      have tail : ∀ (code : Nat) (vs1 : List Nat) (nm1 : Int32) (nu1 : Nat → Int32) (st1 : List Nat), OUT.getD k 0 = code → OUT.drop (k + 1) = wr_f cl vs1 (mt_encs (st1.map c)) → k < OUT.length → (cl = false → nm1 = nI vs1.length ∧ nb_ok N vs1 nu1) → (cl = true → nm1 = yf_names ∧ nu1 = ya_numbered) →
          (cl = false → cn_seen vs1 (mt_encs (st1.map c)) = VS) → vs1.length ≤ 28 + (k + 1) → code < 100 →
          (((code = 2 ∨ code = 4) ∧ gr_rg (K x) ∧ st1 = L x :: R x :: st) ∨ (code = 3 ∧ gr_lf (K x) ∧ st1 = L x :: st) ∨ ((code ≤ 1 ∨ 5 ≤ code) ∧ st1 = st)) →
          wY_write_80 post (wY_write_16 post x2 (nI fr) fu) x2 (nI h) (nI fr) (nI x) (nI code) yf_place yf_points nm1 (nI (fr + k)) yf_made yf_entry yf_waiting yf_values yf_bound yf_cells yf_conses yf_lams yf_steps yf_atWork yf_end yf_writtenCount ya_kind ya_up ya_turn ya_depth ya_value ya_below ya_length ya_parameters ya_codes ya_codeCount ya_form ya_colour ya_same ya_one ya_two td nu1 tx ya_ofFunction ya_codeEnd ya_instance ya_token ya_env ya_tag ya_cellEnv ya_boundNext ya_step ya_boundNumber ya_boundTag ya_headTag ya_tailTag ya_number ya_boundValue ya_head ya_tail ya_written := by
        intro code vs1 nm1 nu1 st1 f1 f2 f3 f4 f5 f6 f7 f8 f9
        have next : ∀ (h1 : Nat) (td1 : Nat → Int32), sk_ok N h1 td1 st1 → h1 ≤ k + 1 + 1 →
            wY_write_16 post x2 (nI fr) fu (nI h1) yf_place yf_points nm1 (nI (fr + (k + 1))) yf_made yf_entry yf_waiting yf_values yf_bound yf_cells yf_conses yf_lams yf_steps yf_atWork yf_end yf_writtenCount ya_kind ya_up ya_turn ya_depth ya_value ya_below ya_length ya_parameters ya_codes ya_codeCount ya_form ya_colour ya_same ya_one ya_two td1 nu1 (upd tx (fr + k) (nI code)) ya_ofFunction ya_codeEnd ya_instance ya_token ya_env ya_tag ya_cellEnv ya_boundNext ya_step ya_boundNumber ya_boundTag ya_headTag ya_tailTag ya_number ya_boundValue ya_head ya_tail ya_written := by
          intro h1 td1 k1 k2
          refine ih fu (k + 1) h1 st1 vs1 nm1 td1 nu1 _ (by omega) (by omega) f2 (by omega) k1 k2 f4 f5 f6 f7 (fun i hi => ?_) (fun i hi => ?_)
          · by_cases z : i = k
            · subst z; rw [pk_us, f1]
            · rw [pk_un (by omega)]; exact ht1 i (by omega)
          · rw [pk_un (by omega)]; exact ht2 i hi
        refine nm_r (e' := nI (fr + (k + 1))) (nI_1 (fr + k)) (And.intro (pk_in (fr + k) 50 (by omega)) (nm_r (e' := upd tx (fr + k) (nI code)) (by rw [nI_clamp (by omega), nr_b (by omega)]) ?_))
        rcases f9 with ⟨c24, hr, e⟩ | ⟨c3, hl, e⟩ | ⟨c01, e⟩
        · obtain ⟨l1, l2⟩ := kl (Or.inr hr)
          obtain ⟨r1, r2⟩ := kr hr
          subst e
          have go : wY_write_111 post (wY_write_16 post x2 (nI fr) fu) x2 (nI h) (nI fr) (nI x) (nI code) yf_place yf_points nm1 (nI (fr + (k + 1))) yf_made yf_entry yf_waiting yf_values yf_bound yf_cells yf_conses yf_lams yf_steps yf_atWork yf_end yf_writtenCount ya_kind ya_up ya_turn ya_depth ya_value ya_below ya_length ya_parameters ya_codes ya_codeCount ya_form ya_colour ya_same ya_one ya_two td nu1 (upd tx (fr + k) (nI code)) ya_ofFunction ya_codeEnd ya_instance ya_token ya_env ya_tag ya_cellEnv ya_boundNext ya_step ya_boundNumber ya_boundTag ya_headTag ya_tailTag ya_number ya_boundValue ya_head ya_tail ya_written := by
            refine nm_r (nI_1 h) (And.intro (pk_in x 900 (by omega)) (And.intro (pk_in h 1500 (by omega)) (nm_r (e' := upd td h (nI (R x))) (by rw [nI_clamp (n := h) (by omega), cx, r1, nr_s0 (by omega)]) ?_)))
            refine br_f (nI_ge (b := code) (a := 1) (by omega) (by omega)) (br_f (nI_ge (b := 5) (by omega) (by omega)) (nm_r (nI_1 (h + 1)) (And.intro (pk_in x 900 (by omega)) (And.intro (pk_in (h + 1) 1500 (by omega)) (nm_r (e' := upd (upd td h (nI (R x))) (h + 1) (nI (L x))) (by rw [nI_clamp (n := h + 1) (by omega), cx, l1, nr_s0 (by omega)]) ?_)))))
            exact next (h + 1 + 1) _ (sk_push (sk_push s3 r2) l2) (by omega)
          exact pk_eq code 2 (fun _ => go) (fun z => pk_eq code 4 (fun _ => go) (fun z2 => by omega))
        · obtain ⟨l1, l2⟩ := kl hl
          subst e
          refine pk_eq code 2 (fun z => by omega) (fun _ => pk_eq code 4 (fun z => by omega) (fun _ => ?_))
          refine br_f (nI_ge (b := code) (a := 1) (by omega) (by omega)) (br_f (nI_ge (b := 5) (by omega) (by omega)) (nm_r (nI_1 h) (And.intro (pk_in x 900 (by omega)) (And.intro (pk_in h 1500 (by omega)) (nm_r (e' := upd td h (nI (L x))) (by rw [nI_clamp (n := h) (by omega), cx, l1, nr_s0 (by omega)]) ?_)))))
          exact next (h + 1) _ (sk_push s3 l2) (by omega)
        · subst e
          refine pk_eq code 2 (fun z => by omega) (fun _ => pk_eq code 4 (fun z => by omega) (fun _ => ?_))
          exact pk_le code 1 (fun _ => next h td s3 (by omega)) (fun z => pk_le 5 code (fun _ => next h td s3 (by omega)) (fun z2 => by omega))
      by_cases v10 : K x = 10
      · have ec := cv v10
        rw [ec] at hdr' hvs'
        simp only [mt_enc, List.cons_append, List.nil_append] at hdr' hvs'
        have n10 : ¬ 10 + x < 10 := by omega
        refine br_f (by rw [kv v10]; decide) ?_
        cases cl with
        | true =>
          subst hx2
          have e : wr_f true vs ((10 + x) :: mt_encs (st.map c)) = 0 :: wr_f true vs (mt_encs (st.map c)) := by
            simp only [wr_f, if_true, cl_0, List.map_cons, mt_rn, if_neg n10]
          rw [e] at hdr'
          obtain ⟨d1, d2, d3⟩ := dr_s hdr'
          exact br_t rfl (tail 0 vs nm nu st d1 d2 d3 hn1 hn2 (fun z => absurd z (by decide)) (by omega) (by omega) (Or.inr (Or.inr ⟨Or.inl (by omega), rfl⟩)))
        | false =>
          subst hx2
          obtain ⟨m1, m2⟩ := hn1 rfl
          subst m1
          refine br_f (by decide) (y_nameOf hN (by omega) x1 m2 (fun hm => ?_) (fun hm => ?_))
          · have e : wr_f false vs ((10 + x) :: mt_encs (st.map c)) = (10 + cn_ix (10 + x) vs) :: wr_f false vs (mt_encs (st.map c)) := by
              simp only [wr_f, cn_go, if_neg n10, if_pos hm]; rfl
            rw [e] at hdr'
            obtain ⟨d1, d2, d3⟩ := dr_s hdr'
            have hix := cn_ix_lt vs hm
            have hv2 := hvs' rfl
            simp only [cn_seen, if_neg n10, if_pos hm] at hv2
            have e10 : (10 : Int32) + nI (cn_ix (10 + x) vs) = nI (10 + cn_ix (10 + x) vs) := nI_add 10 _
            have := tail (10 + cn_ix (10 + x) vs) vs (nI vs.length) nu st d1 d2 d3 (fun _ => ⟨rfl, m2⟩) (fun z => absurd z (by decide)) (fun _ => hv2) (by omega) (by omega) (Or.inr (Or.inr ⟨Or.inr (by omega), rfl⟩))
            rw [← e10] at this
            exact this
          · have e : wr_f false vs ((10 + x) :: mt_encs (st.map c)) = (10 + vs.length) :: wr_f false (vs ++ [10 + x]) (mt_encs (st.map c)) := by
              simp only [wr_f, cn_go, if_neg n10, if_neg hm]; rfl
            rw [e] at hdr'
            obtain ⟨d1, d2, d3⟩ := dr_s hdr'
            have hvl2 : (vs ++ [10 + x]).length = vs.length + 1 := by simp
            have hv2 := hvs' rfl
            simp only [cn_seen, if_neg n10, if_neg hm] at hv2
            have e10 : (10 : Int32) + nI vs.length = nI (10 + vs.length) := nI_add 10 _
            have := tail (10 + vs.length) (vs ++ [10 + x]) (nI (vs.length + 1)) (upd nu vs.length (nI x)) st d1 d2 d3 (fun _ => ⟨by rw [hvl2], nb_new m2 x1⟩) (fun z => absurd z (by decide)) (fun _ => hv2) (by rw [hvl2]; omega) (by omega) (Or.inr (Or.inr ⟨Or.inr (by omega), rfl⟩))
            rw [← e10] at this
            exact this
      · have ec := cc v10
        have cnx := kd_cn kd x2' v10
        have fx := kc x2' v10
        have wrc : ∀ (d : Nat) (cs : List Nat), d < 10 → wr_f cl vs (d :: cs) = d :: wr_f cl vs cs := by
          intro d cs hd
          unfold wr_f
          cases cl
          · simp only [cn_go, if_pos hd]; rfl
          · simp only [cl_0, if_true, List.map_cons, mt_rn, if_pos hd]
        have go : ∀ (d : Nat) (st1 : List Nat), K x = nI d → d < 10 → mt_enc (c x) ++ mt_encs (st.map c) = d :: mt_encs (st1.map c) →
            (((d = 2 ∨ d = 4) ∧ gr_rg (K x) ∧ st1 = L x :: R x :: st) ∨ (d = 3 ∧ gr_lf (K x) ∧ st1 = L x :: st) ∨ ((d ≤ 1 ∨ 5 ≤ d) ∧ st1 = st)) →
            wY_write_80 post (wY_write_16 post x2 (nI fr) fu) x2 (nI h) (nI fr) (nI x) (ya_form x) yf_place yf_points nm (nI (fr + k)) yf_made yf_entry yf_waiting yf_values yf_bound yf_cells yf_conses yf_lams yf_steps yf_atWork yf_end yf_writtenCount ya_kind ya_up ya_turn ya_depth ya_value ya_below ya_length ya_parameters ya_codes ya_codeCount ya_form ya_colour ya_same ya_one ya_two td nu tx ya_ofFunction ya_codeEnd ya_instance ya_token ya_env ya_tag ya_cellEnv ya_boundNext ya_step ya_boundNumber ya_boundTag ya_headTag ya_tailTag ya_number ya_boundValue ya_head ya_tail ya_written := by
          intro d st1 hkd hd he hst1
          rw [he, wrc d _ hd] at hdr'
          obtain ⟨d1, d2, d3⟩ := dr_s hdr'
          rw [fx, hkd]
          refine tail d vs nm nu st1 d1 d2 d3 hn1 hn2 (fun z => ?_) (by omega) (by omega) hst1
          have := hvs' z
          rw [he] at this
          simp only [cn_seen, if_pos hd] at this
          exact this
        refine br_t (by rw [fx]; exact cn_0 cnx) ?_
        rcases cnx with z | z | z | z | z
        · exact go 0 st z (by omega) (by rw [ec, gr_at_0 z]; rfl) (Or.inr (Or.inr ⟨by omega, rfl⟩))
        · exact go 1 st z (by omega) (by rw [ec, gr_at_1 z]; rfl) (Or.inr (Or.inr ⟨by omega, rfl⟩))
        · refine go 2 (L x :: R x :: st) z (by omega) ?_ (Or.inl ⟨by omega, Or.inl z, rfl⟩)
          rw [ec, gr_at_2 z]
          simp only [mt_enc, if_neg (show ¬ (2 : Nat) = 3 by omega), List.map_cons, mt_encs, List.cons_append, List.append_assoc]
        · refine go 3 (L x :: st) z (by omega) ?_ (Or.inr (Or.inl ⟨rfl, Or.inl z, rfl⟩))
          rw [ec, gr_at_3 z]
          simp only [mt_enc, if_true, List.append_nil, List.map_cons, mt_encs, List.cons_append]
        · refine go 4 (L x :: R x :: st) z (by omega) ?_ (Or.inl ⟨by omega, Or.inr z, rfl⟩)
          rw [ec, gr_at_4 z]
          simp only [mt_enc, if_neg (show ¬ (4 : Nat) = 3 by omega), List.map_cons, mt_encs, List.cons_append, List.append_assoc]

variable {yf_place yf_points yf_names yf_textEnd yf_made yf_entry yf_waiting yf_values yf_bound yf_cells yf_conses yf_lams yf_steps yf_atWork yf_end yf_writtenCount : Int32} {ya_kind ya_up ya_turn ya_depth ya_value ya_below ya_length ya_parameters ya_codes ya_codeCount ya_form ya_colour ya_same ya_one ya_two ya_todo ya_numbered ya_text ya_ofFunction ya_codeEnd ya_instance ya_token ya_env ya_tag ya_cellEnv ya_boundNext ya_step ya_boundNumber ya_boundTag ya_headTag ya_tailTag ya_number ya_boundValue ya_head ya_tail ya_written : Nat → Int32}
theorem ix723 (f t k : Nat) : (72 : Int32) * nI f + 3 * nI t + nI k = nI (72 * f + 3 * t + k) := by rw [ix72, nI_add]
def yk_ok (F T m : Nat) (ki va up tu de be ki' va' up' tu' de' be' : Nat → Int32) : Prop :=
  (∀ s, s < m → ki' (24 * T + s) = vp_nar .byte (ki (24 * F + s)) ∧ va' (24 * T + s) = va (24 * F + s) ∧ up' (24 * T + s) = vp_nar .byte (up (24 * F + s)) ∧ tu' (24 * T + s) = vp_nar .byte (tu (24 * F + s)) ∧ de' (24 * T + s) = vp_nar .byte (de (24 * F + s))) ∧
  (∀ j, j < 3 * m → be' (72 * T + j) = vp_nar .short (be (72 * F + j))) ∧
  (∀ j, j < 24 * T ∨ 24 * T + 24 ≤ j → ki' j = ki j ∧ va' j = va j ∧ up' j = up j ∧ tu' j = tu j ∧ de' j = de j) ∧ (∀ j, j < 72 * T ∨ 72 * T + 72 ≤ j → be' j = be j)
theorem y_cp121 {post : SY → Prop} {J2 : JY} {F T t : Nat} (hF : F ≤ 10) (hT : T ≤ 10) (hFT : F ≠ T) (ht : t < 24)
    (hJ : ∀ be : Nat → Int32, (∀ i, i < 3 → be (72 * T + 3 * t + i) = vp_nar .short (ya_below (72 * F + 3 * t + i))) → (∀ j, j < 72 * T + 3 * t ∨ 72 * T + 3 * t + 3 ≤ j → be j = ya_below j) → J2 (nI t + 1) ya_kind ya_up ya_turn ya_depth ya_value be ya_length ya_parameters ya_codes ya_codeCount ya_form ya_colour ya_same ya_one ya_two ya_todo ya_numbered ya_text ya_ofFunction ya_codeEnd ya_instance ya_token ya_env ya_tag ya_cellEnv ya_boundNext ya_step ya_boundNumber ya_boundTag ya_headTag ya_tailTag ya_number ya_boundValue ya_head ya_tail ya_written) :
    ∀ q k fu (be : Nat → Int32), k + q = 3 → q < fu → (∀ i, i < k → be (72 * T + 3 * t + i) = vp_nar .short (ya_below (72 * F + 3 * t + i))) → (∀ j, j < 72 * T + 3 * t ∨ 72 * T + 3 * t + 3 ≤ j → be j = ya_below j) →
      wY_copy_121 post J2 (nI F) (nI T) (nI t) yf_place yf_points yf_names yf_textEnd yf_made yf_entry yf_waiting yf_values yf_bound yf_cells yf_conses yf_lams yf_steps yf_atWork yf_end yf_writtenCount fu (nI k) ya_kind ya_up ya_turn ya_depth ya_value be ya_length ya_parameters ya_codes ya_codeCount ya_form ya_colour ya_same ya_one ya_two ya_todo ya_numbered ya_text ya_ofFunction ya_codeEnd ya_instance ya_token ya_env ya_tag ya_cellEnv ya_boundNext ya_step ya_boundNumber ya_boundTag ya_headTag ya_tailTag ya_number ya_boundValue ya_head ya_tail ya_written := by
  intro q
  induction q with
  | zero =>
    intro k fu be hk hfu h1 h2
    obtain ⟨fu, rfl⟩ : ∃ g, fu = g + 1 := ⟨fu - 1, by omega⟩
    have e : k = 3 := by omega
    subst e
    exact br_t (nI_le (a := 3) (by omega) (by omega)) (nm_e (hJ be h1 h2))
  | succ q ih =>
    intro k fu be hk hfu h1 h2
    obtain ⟨fu, rfl⟩ : ∃ g, fu = g + 1 := ⟨fu - 1, by omega⟩
    have c1 : (nI (72 * F + 3 * t + k)).toNatClampNeg = 72 * F + 3 * t + k := nI_clamp (by omega)
    have c2 : (nI (72 * T + 3 * t + k)).toNatClampNeg = 72 * T + 3 * t + k := nI_clamp (by omega)
    refine br_f (nI_ge (b := 3) (by omega) (by omega)) (And.intro (pk_in (72 * F + 3 * t + k) 792 (by omega) (ix723 F t k)) (And.intro (pk_in (72 * T + 3 * t + k) 792 (by omega) (ix723 T t k)) (nm_r (e' := upd be (72 * T + 3 * t + k) (vp_nar .short (ya_below (72 * F + 3 * t + k)))) (by rw [ix723, ix723, c1, c2, h2 (72 * F + 3 * t + k) (by omega)]) (nm_r (nI_1 k) ?_))))
    refine ih (k + 1) fu _ (by omega) (by omega) (fun i hi => ?_) (fun j hj => ?_)
    · by_cases z : i = k
      · rw [z, pk_us]
      · rw [pk_un (by omega)]; exact h1 i (by omega)
    · rw [pk_un (by omega)]; exact h2 j hj
theorem y_cp2 {post : SY → Prop} {F T : Nat} (hF : F ≤ 10) (hT : T ≤ 10) (hFT : F ≠ T)
    (hP : ∀ ki va up tu de be : Nat → Int32, yk_ok F T 24 ya_kind ya_value ya_up ya_turn ya_depth ya_below ki va up tu de be →
      post (yf_place, yf_points, yf_names, yf_textEnd, yf_made, yf_entry, yf_waiting, yf_values, yf_bound, yf_cells, yf_conses, yf_lams, yf_steps, yf_atWork, yf_end, yf_writtenCount, ki, up, tu, de, va, be, (upd ya_length T (vp_nar .byte (ya_length F))), (upd ya_parameters T (vp_nar .byte (ya_parameters F))), ya_codes, ya_codeCount, ya_form, ya_colour, ya_same, ya_one, ya_two, ya_todo, ya_numbered, ya_text, ya_ofFunction, ya_codeEnd, ya_instance, ya_token, ya_env, ya_tag, ya_cellEnv, ya_boundNext, ya_step, ya_boundNumber, ya_boundTag, ya_headTag, ya_tailTag, ya_number, ya_boundValue, ya_head, ya_tail, ya_written)) :
    ∀ q t fu (ki va up tu de be : Nat → Int32), t + q = 24 → q < fu → yk_ok F T t ya_kind ya_value ya_up ya_turn ya_depth ya_below ki va up tu de be →
      wY_copy_2 post (nI F) (nI T) yf_place yf_points yf_names yf_textEnd yf_made yf_entry yf_waiting yf_values yf_bound yf_cells yf_conses yf_lams yf_steps yf_atWork yf_end yf_writtenCount fu (nI t) ki up tu de va be ya_length ya_parameters ya_codes ya_codeCount ya_form ya_colour ya_same ya_one ya_two ya_todo ya_numbered ya_text ya_ofFunction ya_codeEnd ya_instance ya_token ya_env ya_tag ya_cellEnv ya_boundNext ya_step ya_boundNumber ya_boundTag ya_headTag ya_tailTag ya_number ya_boundValue ya_head ya_tail ya_written := by
  intro q
  induction q with
  | zero =>
    intro t fu ki va up tu de be ht hfu h
    obtain ⟨fu, rfl⟩ : ∃ g, fu = g + 1 := ⟨fu - 1, by omega⟩
    have e : t = 24 := by omega
    subst e
    have cF : (nI F).toNatClampNeg = F := nI_clamp (by omega)
    have cT : (nI T).toNatClampNeg = T := nI_clamp (by omega)
    refine br_t (nI_le (a := 24) (by omega) (by omega)) (And.intro (pk_in F 11 (by omega)) (And.intro (pk_in T 11 (by omega)) (nm_r (e' := upd ya_length T (vp_nar .byte (ya_length F))) (by rw [cF, cT]) (And.intro (pk_in F 11 (by omega)) (And.intro (pk_in T 11 (by omega)) (nm_r (e' := upd ya_parameters T (vp_nar .byte (ya_parameters F))) (by rw [cF, cT]) (hP ki va up tu de be h)))))))
  | succ q ih =>
    intro t fu ki va up tu de be ht hfu h
    obtain ⟨fu, rfl⟩ : ∃ g, fu = g + 1 := ⟨fu - 1, by omega⟩
    obtain ⟨h1, h2, h3, h4⟩ := h
    have c1 : (nI (24 * F + t)).toNatClampNeg = 24 * F + t := nI_clamp (by omega)
    have c2 : (nI (24 * T + t)).toNatClampNeg = 24 * T + t := nI_clamp (by omega)
    obtain ⟨o1, o2, o3, o4, o5⟩ := h3 (24 * F + t) (by omega)
    have i1 : vp_in (24 * nI F + nI t) 264 := pk_in (24 * F + t) 264 (by omega) (ix24 F t)
    have i2 : vp_in (24 * nI T + nI t) 264 := pk_in (24 * T + t) 264 (by omega) (ix24 T t)
    refine br_f (nI_ge (b := 24) (by omega) (by omega)) (And.intro i1 (And.intro i2 (nm_r (e' := upd ki (24 * T + t) (vp_nar .byte (ya_kind (24 * F + t)))) (by rw [ix24, ix24, c1, c2, o1])
      (And.intro i1 (And.intro i2 (nm_r (e' := upd va (24 * T + t) (ya_value (24 * F + t))) (by rw [ix24, ix24, c1, c2, o2])
      (And.intro i1 (And.intro i2 (nm_r (e' := upd up (24 * T + t) (vp_nar .byte (ya_up (24 * F + t)))) (by rw [ix24, ix24, c1, c2, o3])
      (And.intro i1 (And.intro i2 (nm_r (e' := upd tu (24 * T + t) (vp_nar .byte (ya_turn (24 * F + t)))) (by rw [ix24, ix24, c1, c2, o4])
      (And.intro i1 (And.intro i2 (nm_r (e' := upd de (24 * T + t) (vp_nar .byte (ya_depth (24 * F + t)))) (by rw [ix24, ix24, c1, c2, o5]) (Exists.intro 4 ?_))))))))))))))))
    refine y_cp121 (ya_below := be) (J2 := wY_copy_2 post (nI F) (nI T) yf_place yf_points yf_names yf_textEnd yf_made yf_entry yf_waiting yf_values yf_bound yf_cells yf_conses yf_lams yf_steps yf_atWork yf_end yf_writtenCount fu) hF hT hFT (by omega) (fun be' k1 k2 => ?_) 3 0 4 be (by omega) (by omega) (fun i hi => by omega) (fun _ _ => rfl)
    rw [nI_1]
    refine ih (t + 1) fu _ _ _ _ _ _ (by omega) (by omega) ⟨fun s hs => ?_, fun j hj => ?_, fun j hj => ?_, fun j hj => ?_⟩
    · by_cases z : s = t
      · subst z; exact ⟨pk_us, pk_us, pk_us, pk_us, pk_us⟩
      · rw [pk_un (by omega), pk_un (by omega), pk_un (by omega), pk_un (by omega), pk_un (by omega)]; exact h1 s (by omega)
    · by_cases z : j < 3 * t
      · rw [k2 _ (by omega)]; exact h2 j z
      · obtain ⟨i, hi, e⟩ : ∃ i, i < 3 ∧ j = 3 * t + i := ⟨j - 3 * t, by omega, by omega⟩
        have := k1 i hi
        rw [e, ← Nat.add_assoc, this, h4 _ (by omega), Nat.add_assoc]
    · rw [pk_un (by omega), pk_un (by omega), pk_un (by omega), pk_un (by omega), pk_un (by omega)]; exact h3 j hj
    · rw [k2 j (by omega)]; exact h4 j hj
theorem y_copy {post : SY → Prop} {F T : Nat} (hF : F ≤ 10) (hT : T ≤ 10) (hFT : F ≠ T)
    (hP : ∀ ki va up tu de be : Nat → Int32, yk_ok F T 24 ya_kind ya_value ya_up ya_turn ya_depth ya_below ki va up tu de be →
      post (yf_place, yf_points, yf_names, yf_textEnd, yf_made, yf_entry, yf_waiting, yf_values, yf_bound, yf_cells, yf_conses, yf_lams, yf_steps, yf_atWork, yf_end, yf_writtenCount, ki, up, tu, de, va, be, (upd ya_length T (vp_nar .byte (ya_length F))), (upd ya_parameters T (vp_nar .byte (ya_parameters F))), ya_codes, ya_codeCount, ya_form, ya_colour, ya_same, ya_one, ya_two, ya_todo, ya_numbered, ya_text, ya_ofFunction, ya_codeEnd, ya_instance, ya_token, ya_env, ya_tag, ya_cellEnv, ya_boundNext, ya_step, ya_boundNumber, ya_boundTag, ya_headTag, ya_tailTag, ya_number, ya_boundValue, ya_head, ya_tail, ya_written)) : wpY_copy post (yf_place, yf_points, yf_names, yf_textEnd, yf_made, yf_entry, yf_waiting, yf_values, yf_bound, yf_cells, yf_conses, yf_lams, yf_steps, yf_atWork, yf_end, yf_writtenCount, ya_kind, ya_up, ya_turn, ya_depth, ya_value, ya_below, ya_length, ya_parameters, ya_codes, ya_codeCount, ya_form, ya_colour, ya_same, ya_one, ya_two, ya_todo, ya_numbered, ya_text, ya_ofFunction, ya_codeEnd, ya_instance, ya_token, ya_env, ya_tag, ya_cellEnv, ya_boundNext, ya_step, ya_boundNumber, ya_boundTag, ya_headTag, ya_tailTag, ya_number, ya_boundValue, ya_head, ya_tail, ya_written) (nI F) (nI T) :=
  Exists.intro 25 (y_cp2 hF hT hFT hP 24 0 25 ya_kind ya_value ya_up ya_turn ya_depth ya_below (by omega) (by omega) ⟨fun s hs => by omega, fun j hj => by omega, fun _ _ => ⟨rfl, rfl, rfl, rfl, rfl⟩, fun _ _ => rfl⟩)
theorem yg_init {fo sa on tw : Nat → Int32} (h1 : ∀ n, n < 74 → fo n = -1) (h2 : ∀ n, n < 74 → sa n = nI n) :
    yg_ok 74 fo sa on tw (fun _ => 10) (fun _ => 0) (fun _ => 0) (fun n => n) (fun _ => 0) := by
  refine ⟨fun n hn => ⟨kd_10, fun z => absurd z n10_5, fun _ => h2 n hn, fun _ => h1 n hn, fun _ z => absurd rfl z, fun z => absurd z nlf10, fun z => absurd z nrg10, fun _ => Or.inl rfl⟩, fun n hn => ⟨hn, n10_5, fun _ => ⟨rfl, rfl⟩, fun z => absurd z n10_5, Nat.zero_le _⟩⟩
theorem ys_init (r : Nat → mt_T) : gr_sat 74 (fun _ => 10) (fun _ => 0) (fun _ => 0) r := fun n _ => (gr_at_v rfl).symm
theorem y_bg8 {post : SY → Prop} (hP : ∀ fo sa : Nat → Int32, (∀ n, n < 74 → fo n = -1) → (∀ n, n < 74 → sa n = nI n) → post (yf_place, yf_points, yf_names, yf_textEnd, yf_made, yf_entry, yf_waiting, yf_values, yf_bound, yf_cells, yf_conses, yf_lams, yf_steps, yf_atWork, yf_end, yf_writtenCount, ya_kind, ya_up, ya_turn, ya_depth, ya_value, ya_below, ya_length, ya_parameters, ya_codes, ya_codeCount, fo, ya_colour, sa, ya_one, ya_two, ya_todo, ya_numbered, ya_text, ya_ofFunction, ya_codeEnd, ya_instance, ya_token, ya_env, ya_tag, ya_cellEnv, ya_boundNext, ya_step, ya_boundNumber, ya_boundTag, ya_headTag, ya_tailTag, ya_number, ya_boundValue, ya_head, ya_tail, ya_written)) :
    ∀ q n fu (fo sa : Nat → Int32), n + q = 74 → q < fu → (∀ i, i < n → fo i = -1) → (∀ i, i < n → sa i = nI i) → wY_begin_8 post yf_place yf_points yf_names yf_textEnd yf_made yf_entry yf_waiting yf_values yf_bound yf_cells yf_conses yf_lams yf_steps yf_atWork yf_end yf_writtenCount fu (nI n) ya_kind ya_up ya_turn ya_depth ya_value ya_below ya_length ya_parameters ya_codes ya_codeCount fo ya_colour sa ya_one ya_two ya_todo ya_numbered ya_text ya_ofFunction ya_codeEnd ya_instance ya_token ya_env ya_tag ya_cellEnv ya_boundNext ya_step ya_boundNumber ya_boundTag ya_headTag ya_tailTag ya_number ya_boundValue ya_head ya_tail ya_written := by
  intro q
  induction q with
  | zero =>
    intro n fu fo sa hn hfu h1 h2
    obtain ⟨fu, rfl⟩ : ∃ g, fu = g + 1 := ⟨fu - 1, by omega⟩
    have e : n = 74 := by omega
    subst e
    exact br_t (nI_le (a := 74) (by omega) (by omega)) (hP fo sa h1 h2)
  | succ q ih =>
    intro n fu fo sa hn hfu h1 h2
    obtain ⟨fu, rfl⟩ : ∃ g, fu = g + 1 := ⟨fu - 1, by omega⟩
    refine br_f (nI_ge (b := 74) (by omega) (by omega)) (And.intro (pk_in n 900 (by omega)) (nm_r (e' := upd fo n (-1)) (by rw [nI_clamp (by omega), nr_bm]) (And.intro (pk_in n 900 (by omega)) (nm_r (e' := upd sa n (nI n)) (by rw [nI_clamp (by omega), nr_s (by omega)]) (nm_r (nI_1 n) (ih (n + 1) fu _ _ (by omega) (by omega) (fun i hi => ?_) (fun i hi => ?_)))))))
    · by_cases z : i = n
      · rw [z, pk_us]
      · rw [pk_un z]; exact h1 i (by omega)
    · by_cases z : i = n
      · rw [z, pk_us]
      · rw [pk_un z]; exact h2 i (by omega)
theorem y_begin {post : SY → Prop} (hP : ∀ fo sa : Nat → Int32, yg_ok 74 fo sa ya_one ya_two (fun _ => 10) (fun _ => 0) (fun _ => 0) (fun n => n) (fun _ => 0) → post (yf_place, (nI 74), yf_names, yf_textEnd, yf_made, yf_entry, yf_waiting, yf_values, yf_bound, yf_cells, yf_conses, yf_lams, yf_steps, yf_atWork, yf_end, yf_writtenCount, ya_kind, ya_up, ya_turn, ya_depth, ya_value, ya_below, ya_length, ya_parameters, ya_codes, ya_codeCount, fo, ya_colour, sa, ya_one, ya_two, ya_todo, ya_numbered, ya_text, ya_ofFunction, ya_codeEnd, ya_instance, ya_token, ya_env, ya_tag, ya_cellEnv, ya_boundNext, ya_step, ya_boundNumber, ya_boundTag, ya_headTag, ya_tailTag, ya_number, ya_boundValue, ya_head, ya_tail, ya_written)) : wpY_begin post (yf_place, yf_points, yf_names, yf_textEnd, yf_made, yf_entry, yf_waiting, yf_values, yf_bound, yf_cells, yf_conses, yf_lams, yf_steps, yf_atWork, yf_end, yf_writtenCount, ya_kind, ya_up, ya_turn, ya_depth, ya_value, ya_below, ya_length, ya_parameters, ya_codes, ya_codeCount, ya_form, ya_colour, ya_same, ya_one, ya_two, ya_todo, ya_numbered, ya_text, ya_ofFunction, ya_codeEnd, ya_instance, ya_token, ya_env, ya_tag, ya_cellEnv, ya_boundNext, ya_step, ya_boundNumber, ya_boundTag, ya_headTag, ya_tailTag, ya_number, ya_boundValue, ya_head, ya_tail, ya_written) :=
  Exists.intro 75 (y_bg8 (fun fo sa h1 h2 => hP fo sa (yg_init h1 h2)) 74 0 75 ya_form ya_same (by omega) (by omega) (fun i hi => by omega) (fun i hi => by omega))
/-- what infer asks for behind it -/
def yi_s (post : Int32 → SY → Prop) (yf_place yf_points yf_names yf_textEnd yf_made yf_entry yf_waiting yf_values yf_bound yf_cells yf_conses yf_lams yf_steps yf_atWork yf_end yf_writtenCount : Int32) (ya_kind ya_up ya_turn ya_depth ya_value ya_below ya_length ya_parameters ya_codes ya_codeCount ya_form ya_colour ya_same ya_one ya_two ya_todo ya_numbered ya_text ya_ofFunction ya_codeEnd ya_instance ya_token ya_env ya_tag ya_cellEnv ya_boundNext ya_step ya_boundNumber ya_boundTag ya_headTag ya_tailTag ya_number ya_boundValue ya_head ya_tail ya_written : Nat → Int32) (S : (Nat → mt_T) → Prop) : Prop :=
  ∀ N fo sa on tw co td nu K L R rt ds c, 74 ≤ N → N ≤ 780 → yg_ok N fo sa on tw K L R rt ds → mg_is N (gr_sat N K L R) c → (∀ n, n < N → K n = 10 → c n = .leaf (10 + n)) → pj_is 74 (gr_sat N K L R) S →
    post (-1) (yf_place, (nI N), yf_names, yf_textEnd, yf_made, yf_entry, yf_waiting, yf_values, yf_bound, yf_cells, yf_conses, yf_lams, yf_steps, yf_atWork, yf_end, yf_writtenCount, ya_kind, ya_up, ya_turn, ya_depth, ya_value, ya_below, ya_length, ya_parameters, ya_codes, ya_codeCount, fo, co, sa, on, tw, td, nu, ya_text, ya_ofFunction, ya_codeEnd, ya_instance, ya_token, ya_env, ya_tag, ya_cellEnv, ya_boundNext, ya_step, ya_boundNumber, ya_boundTag, ya_headTag, ya_tailTag, ya_number, ya_boundValue, ya_head, ya_tail, ya_written)
theorem y_infer {post : Int32 → SY → Prop} {row f n N : Nat} {kN : Nat → Nat} {vl : Nat → Int32} {oc sp bd bi : Nat → Nat} {cod : Nat → List Nat} {S0 : (Nat → mt_T) → Prop} {K : Nat → Int32} {L R rt ds : Nat → Nat} (hrow : row ≤ 10) (hf : f < 5) (hl : ya_length row = nI n)
    (hbd : bd_ok n kN vl oc sp bd bi) (hb : yb_ok row n ya_kind ya_value ya_up ya_turn ya_depth ya_below kN vl oc sp bd) (hfn : yn_ok row f n ya_parameters ya_codeCount ya_codes kN vl oc cod)
    (hPs : yi_s post yf_place yf_points yf_names yf_textEnd yf_made yf_entry yf_waiting yf_values yf_bound yf_cells yf_conses yf_lams yf_steps yf_atWork yf_end yf_writtenCount ya_kind ya_up ya_turn ya_depth ya_value ya_below ya_length ya_parameters ya_codes ya_codeCount ya_form ya_colour ya_same ya_one ya_two ya_todo ya_numbered ya_text ya_ofFunction ya_codeEnd ya_instance ya_token ya_env ya_tag ya_cellEnv ya_boundNext ya_step ya_boundNumber ya_boundTag ya_headTag ya_tailTag ya_number ya_boundValue ya_head ya_tail ya_written (S_t S0 f kN vl oc sp bd bi cod n))
    (hPf : ∀ t N fo sa on tw co td nu, t < n → (t = 0 ∨ ∃ r, (∀ n, mt_wf (r n)) ∧ S_t S0 f kN vl oc sp bd bi cod t r) → (∀ r, (∀ n, mt_wf (r n)) → ¬ S_t S0 f kN vl oc sp bd bi cod (t + 1) r) →
      post (nI t) (yf_place, (nI N), yf_names, yf_textEnd, yf_made, yf_entry, yf_waiting, yf_values, yf_bound, yf_cells, yf_conses, yf_lams, yf_steps, yf_atWork, yf_end, yf_writtenCount, ya_kind, ya_up, ya_turn, ya_depth, ya_value, ya_below, ya_length, ya_parameters, ya_codes, ya_codeCount, fo, co, sa, on, tw, td, nu, ya_text, ya_ofFunction, ya_codeEnd, ya_instance, ya_token, ya_env, ya_tag, ya_cellEnv, ya_boundNext, ya_step, ya_boundNumber, ya_boundTag, ya_headTag, ya_tailTag, ya_number, ya_boundValue, ya_head, ya_tail, ya_written))
    (h74 : 74 ≤ N) (hN : N ≤ 116) (hg : yg_ok N ya_form ya_same ya_one ya_two K L R rt ds) (hp : pj_is 74 (gr_sat N K L R) S0) : wpY_infer post (yf_place, (nI N), yf_names, yf_textEnd, yf_made, yf_entry, yf_waiting, yf_values, yf_bound, yf_cells, yf_conses, yf_lams, yf_steps, yf_atWork, yf_end, yf_writtenCount, ya_kind, ya_up, ya_turn, ya_depth, ya_value, ya_below, ya_length, ya_parameters, ya_codes, ya_codeCount, ya_form, ya_colour, ya_same, ya_one, ya_two, ya_todo, ya_numbered, ya_text, ya_ofFunction, ya_codeEnd, ya_instance, ya_token, ya_env, ya_tag, ya_cellEnv, ya_boundNext, ya_step, ya_boundNumber, ya_boundTag, ya_headTag, ya_tailTag, ya_number, ya_boundValue, ya_head, ya_tail, ya_written) (nI row) (nI f) := by
  refine Exists.intro (n + 1) (y_infer2 hrow hf hl hbd hb hfn hPs hPf n 0 (n + 1) N ya_form ya_same ya_one ya_two ya_colour ya_todo ya_numbered K L R rt ds (by omega) (by omega) h74 (by simp only [sm]; omega) hg ?_ (Or.inl rfl))
  exact ⟨fun r hr h => ⟨hp.1 r hr h, fun s hs => by omega⟩, fun r hr h => hp.2 r hr h.1⟩
theorem mt_encs_app : ∀ a b : List mt_T, mt_encs (a ++ b) = mt_encs a ++ mt_encs b := by
  intro a
  induction a with
  | nil => intro b; rfl
  | cons t a ih => intro b; simp only [List.cons_append, mt_encs, ih, List.append_assoc]
theorem gd_l {α : Type} (l2 : List α) (d : α) : ∀ (l1 : List α) (k : Nat), k < l1.length → (l1 ++ l2).getD k d = l1.getD k d := by
  intro l1
  induction l1 with
  | nil => intro k h; simp at h
  | cons x l ih =>
    intro k h
    cases k with
    | zero => rfl
    | succ k => simp only [List.cons_append, List.getD_cons_succ]; exact ih k (by simpa using h)
/-- the nodes of the first p parameters -/
def pr_st (p : Nat) : List Nat := (List.range p).map (fun j => 72 + j)
theorem pr_s (p : Nat) : pr_st (p + 1) = pr_st p ++ [72 + p] := by simp only [pr_st, List.range_succ, List.map_append, List.map_cons, List.map_nil]
theorem pr_enc (c : Nat → mt_T) (p : Nat) : mt_encs ((pr_st (p + 1)).map c) = mt_encs ((pr_st p).map c) ++ mt_enc (c (72 + p)) := by
  rw [pr_s, List.map_append, mt_encs_app]; simp [mt_encs]
theorem ow_enc (c : Nat → mt_T) (P : Nat) : mt_encs ((ow_st P).map c) = mt_encs ((pr_st P).map c) ++ mt_enc (c 0) := by
  unfold ow_st; rw [List.map_append, mt_encs_app]; simp [mt_encs, pr_st]
theorem pr_le {c : Nat → mt_T} {P : Nat} (h : ∀ p, p < P → (mt_enc (c (72 + p))).length ≤ 14) : ∀ p, p ≤ P → (mt_encs ((pr_st p).map c)).length ≤ 14 * p := by
  intro p
  induction p with
  | zero => intro _; exact Nat.zero_le _
  | succ p ih =>
    intro hp
    have := ih (by omega)
    have := h p (by omega)
    rw [pr_enc, List.length_append]; omega
theorem tx_app {tx tx0 : Nat → Int32} {a b vs : List Nat} (h1 : ∀ i, i < a.length → tx0 i = nI ((cn_go vs a).getD i 0)) (h2 : ∀ i, i < b.length → tx (a.length + i) = nI ((cn_go (cn_seen vs a) b).getD i 0)) (h3 : ∀ i, i < a.length → tx i = tx0 i) :
    ∀ i, i < (a ++ b).length → tx i = nI ((cn_go vs (a ++ b)).getD i 0) := by
  intro i hi
  have hl : (cn_go vs a).length = a.length := by rw [cn_go_map, List.length_map]
  rw [cn_app]
  by_cases z : i < a.length
  · rw [gd_l _ _ _ _ (by omega), h3 i z]; exact h1 i z
  · obtain ⟨j, rfl⟩ : ∃ j, i = a.length + j := ⟨i - a.length, by omega⟩
    rw [h2 j (by rw [List.length_append] at hi; omega)]
    have := gd_r (cn_go (cn_seen vs a) b) 0 j (cn_go vs a)
    rw [hl, Nat.add_comm] at this
    rw [this]
theorem y_wa15 {post : SY → Prop} {row N P : Nat} {K : Nat → Int32} {L R rt ds : Nat → Nat} {c : Nat → mt_T} (hrow : row ≤ 10) (h74 : 74 ≤ N) (hN : N ≤ 900) (hP2 : P ≤ 2) (hpa : ya_parameters row = nI P)
    (hg : yw_ok N ya_form ya_same ya_one ya_two K L R rt ds c) (hlp : ∀ p, p < P → (mt_enc (c (72 + p))).length ≤ 14) (hl0 : (mt_enc (c 0)).length ≤ 14)
    (hP : ∀ nm td nu tx, (∀ i, i < (mt_encs ((ow_st P).map c)).length → tx i = nI ((cn_go [] (mt_encs ((ow_st P).map c))).getD i 0)) → post (yf_place, yf_points, nm, (nI (mt_encs ((ow_st P).map c)).length), yf_made, yf_entry, yf_waiting, yf_values, yf_bound, yf_cells, yf_conses, yf_lams, yf_steps, yf_atWork, yf_end, yf_writtenCount, ya_kind, ya_up, ya_turn, ya_depth, ya_value, ya_below, ya_length, ya_parameters, ya_codes, ya_codeCount, ya_form, ya_colour, ya_same, ya_one, ya_two, td, nu, tx, ya_ofFunction, ya_codeEnd, ya_instance, ya_token, ya_env, ya_tag, ya_cellEnv, ya_boundNext, ya_step, ya_boundNumber, ya_boundTag, ya_headTag, ya_tailTag, ya_number, ya_boundValue, ya_head, ya_tail, ya_written)) :
    ∀ q p fu td nu tx, p + q = P → q < fu → nb_ok N (cn_seen [] (mt_encs ((pr_st p).map c))) nu → (∀ i, i < (mt_encs ((pr_st p).map c)).length → tx i = nI ((cn_go [] (mt_encs ((pr_st p).map c))).getD i 0)) →
      wY_writeAll_15 post (nI row) 1 fu 1 (nI p) yf_place yf_points (nI (cn_seen [] (mt_encs ((pr_st p).map c))).length) (nI (mt_encs ((pr_st p).map c)).length) yf_made yf_entry yf_waiting yf_values yf_bound yf_cells yf_conses yf_lams yf_steps yf_atWork yf_end yf_writtenCount ya_kind ya_up ya_turn ya_depth ya_value ya_below ya_length ya_parameters ya_codes ya_codeCount ya_form ya_colour ya_same ya_one ya_two td nu tx ya_ofFunction ya_codeEnd ya_instance ya_token ya_env ya_tag ya_cellEnv ya_boundNext ya_step ya_boundNumber ya_boundTag ya_headTag ya_tailTag ya_number ya_boundValue ya_head ya_tail ya_written := by
  have hO : ∀ (vs cs : List Nat), vs.length ≤ 28 → cs.length ≤ 14 → ∀ k, k < (wr_f false vs cs).length → (wr_f false vs cs).getD k 0 < 100 := by
    intro vs cs h1 h2 k hk
    have := cn_bd cs vs _ (gd_mem _ k hk)
    show (cn_go vs cs).getD k 0 < 100
    omega
  intro q
  induction q with
  | zero =>
    intro p fu td nu tx hp hfu h1 h2
    obtain ⟨fu, rfl⟩ : ∃ g, fu = g + 1 := ⟨fu - 1, by omega⟩
    have e : p = P := by omega
    subst e
    have hpl := pr_le hlp p (Nat.le_refl _)
    have hcl := cs_len (mt_encs ((pr_st p).map c)) []
    rw [List.length_nil] at hcl
    refine And.intro (pk_in row 11 (by omega)) ?_
    rw [nI_clamp (n := row) (by omega), hpa]
    refine br_t (nI_le (Nat.le_refl _) (by omega)) (br_f n1_0 ?_)
    refine y_write (cl := false) (p := 0) (c := c) (vs0 := cn_seen [] (mt_encs ((pr_st p).map c))) hN (by omega) (by omega) rfl (by omega) hg (fun _ => ⟨rfl, h1⟩) (hO _ _ (by omega) hl0) (fun nm td' nu' tx' q1 q2 q3 q4 q5 => ?_) (fun _ _ _ _ z => by omega)
    have := hP nm td' nu' tx' (by rw [ow_enc]; exact tx_app h2 q4 q5)
    rw [ow_enc, List.length_append] at this
    exact this
  | succ q ih =>
    intro p fu td nu tx hp hfu h1 h2
    obtain ⟨fu, rfl⟩ : ∃ g, fu = g + 1 := ⟨fu - 1, by omega⟩
    have hpl := pr_le hlp p (by omega)
    have hlp' := hlp p (by omega)
    have hcl := cs_len (mt_encs ((pr_st p).map c)) []
    rw [List.length_nil] at hcl
    refine And.intro (pk_in row 11 (by omega)) ?_
    rw [nI_clamp (n := row) (by omega), hpa]
    refine br_f (nI_ge (by omega) (by omega)) (br_f n1_0 ?_)
    rw [ix_72]
    refine y_write (cl := false) (p := 72 + p) (c := c) (vs0 := cn_seen [] (mt_encs ((pr_st p).map c))) hN (by omega) (by omega) rfl (by omega) hg (fun _ => ⟨rfl, h1⟩) (hO _ _ (by omega) hlp') (fun nm td' nu' tx' q1 q2 q3 q4 q5 => ?_) (fun _ _ _ _ z => by omega)
    obtain ⟨e1, e2⟩ := q2 rfl
    subst e1
    refine nm_r (nI_1 p) ?_
    have := ih (p + 1) fu td' nu' tx' (by omega) (by omega) (by rw [pr_enc, cs_app]; exact e2) (by rw [pr_enc]; exact tx_app h2 q4 q5)
    rw [pr_enc, List.length_append, cs_app] at this
    exact this
theorem y_writeAll {post : SY → Prop} {row N P : Nat} {K : Nat → Int32} {L R rt ds : Nat → Nat} {c : Nat → mt_T} (hrow : row ≤ 10) (h74 : 74 ≤ N) (hN : N ≤ 900) (hP2 : P ≤ 2) (hpa : ya_parameters row = nI P)
    (hg : yw_ok N ya_form ya_same ya_one ya_two K L R rt ds c) (hlp : ∀ p, p < P → (mt_enc (c (72 + p))).length ≤ 14) (hl0 : (mt_enc (c 0)).length ≤ 14)
    (hP : ∀ nm td nu tx, (∀ i, i < (mt_encs ((ow_st P).map c)).length → tx i = nI ((cn_go [] (mt_encs ((ow_st P).map c))).getD i 0)) → post (yf_place, yf_points, nm, (nI (mt_encs ((ow_st P).map c)).length), yf_made, yf_entry, yf_waiting, yf_values, yf_bound, yf_cells, yf_conses, yf_lams, yf_steps, yf_atWork, yf_end, yf_writtenCount, ya_kind, ya_up, ya_turn, ya_depth, ya_value, ya_below, ya_length, ya_parameters, ya_codes, ya_codeCount, ya_form, ya_colour, ya_same, ya_one, ya_two, td, nu, tx, ya_ofFunction, ya_codeEnd, ya_instance, ya_token, ya_env, ya_tag, ya_cellEnv, ya_boundNext, ya_step, ya_boundNumber, ya_boundTag, ya_headTag, ya_tailTag, ya_number, ya_boundValue, ya_head, ya_tail, ya_written)) :
    wpY_writeAll post (yf_place, yf_points, yf_names, yf_textEnd, yf_made, yf_entry, yf_waiting, yf_values, yf_bound, yf_cells, yf_conses, yf_lams, yf_steps, yf_atWork, yf_end, yf_writtenCount, ya_kind, ya_up, ya_turn, ya_depth, ya_value, ya_below, ya_length, ya_parameters, ya_codes, ya_codeCount, ya_form, ya_colour, ya_same, ya_one, ya_two, ya_todo, ya_numbered, ya_text, ya_ofFunction, ya_codeEnd, ya_instance, ya_token, ya_env, ya_tag, ya_cellEnv, ya_boundNext, ya_step, ya_boundNumber, ya_boundTag, ya_headTag, ya_tailTag, ya_number, ya_boundValue, ya_head, ya_tail, ya_written) (nI row) 1 :=
  Exists.intro (P + 1) (y_wa15 (c := c) hrow h74 hN hP2 hpa hg hlp hl0 hP P 0 (P + 1) ya_todo ya_numbered ya_text (by omega) (by omega) (fun k hk => absurd hk (by simp [pr_st, mt_encs, cn_seen])) (fun i hi => absurd hi (by simp [pr_st, mt_encs])))
theorem y_nm8 {post : SY → Prop} {f : Nat} {Lc : List Nat} (hf : f < 5) (h42 : Lc.length ≤ 42) (h60 : ∀ k, k < Lc.length → Lc.getD k 0 < 60) (htx : ∀ i, i < Lc.length → ya_text i = nI (Lc.getD i 0))
    (hP : ∀ co : Nat → Int32, (∀ i, i < Lc.length → co (48 * f + i) = nI (Lc.getD i 0)) → (∀ j, j < 48 * f ∨ 48 * f + 48 ≤ j → co j = ya_codes j) → post (yf_place, yf_points, yf_names, (nI Lc.length), yf_made, yf_entry, yf_waiting, yf_values, yf_bound, yf_cells, yf_conses, yf_lams, yf_steps, yf_atWork, yf_end, yf_writtenCount, ya_kind, ya_up, ya_turn, ya_depth, ya_value, ya_below, ya_length, ya_parameters, co, (upd ya_codeCount f (nI Lc.length)), ya_form, ya_colour, ya_same, ya_one, ya_two, ya_todo, ya_numbered, ya_text, ya_ofFunction, ya_codeEnd, ya_instance, ya_token, ya_env, ya_tag, ya_cellEnv, ya_boundNext, ya_step, ya_boundNumber, ya_boundTag, ya_headTag, ya_tailTag, ya_number, ya_boundValue, ya_head, ya_tail, ya_written)) :
    ∀ q k fu (co : Nat → Int32), k + q = Lc.length → q < fu → (∀ i, i < k → co (48 * f + i) = nI (Lc.getD i 0)) → (∀ j, j < 48 * f ∨ 48 * f + 48 ≤ j → co j = ya_codes j) → wY_name_8 post (nI f) yf_place yf_points yf_names (nI Lc.length) yf_made yf_entry yf_waiting yf_values yf_bound yf_cells yf_conses yf_lams yf_steps yf_atWork yf_end yf_writtenCount fu (nI k) ya_kind ya_up ya_turn ya_depth ya_value ya_below ya_length ya_parameters co ya_codeCount ya_form ya_colour ya_same ya_one ya_two ya_todo ya_numbered ya_text ya_ofFunction ya_codeEnd ya_instance ya_token ya_env ya_tag ya_cellEnv ya_boundNext ya_step ya_boundNumber ya_boundTag ya_headTag ya_tailTag ya_number ya_boundValue ya_head ya_tail ya_written := by
  intro q
  induction q with
  | zero =>
    intro k fu co hk hfu h1 h2
    obtain ⟨fu, rfl⟩ : ∃ g, fu = g + 1 := ⟨fu - 1, by omega⟩
    have e : k = Lc.length := by omega
    subst e
    exact br_t (nI_le (Nat.le_refl _) (by omega)) (And.intro (pk_in f 5 hf) (nm_r (e' := upd ya_codeCount f (nI Lc.length)) (by rw [nI_clamp (by omega), nr_b (by omega)]) (hP co h1 h2)))
  | succ q ih =>
    intro k fu co hk hfu h1 h2
    obtain ⟨fu, rfl⟩ : ∃ g, fu = g + 1 := ⟨fu - 1, by omega⟩
    have e48 : (48 : Int32) * nI f + nI k = nI (48 * f + k) := by rw [show (48 : Int32) * nI f = nI (48 * f) from pk_mul 48 f, nI_add]
    have h60' := h60 k (by omega)
    refine br_f (nI_ge (by omega) (by omega)) (And.intro (pk_in k 50 (by omega)) (And.intro (pk_in (48 * f + k) 240 (by omega) e48) (nm_r (e' := upd co (48 * f + k) (nI (Lc.getD k 0))) (by rw [e48, nI_clamp (by omega), nI_clamp (by omega), htx k (by omega), nr_b0 (by omega)]) (nm_r (nI_1 k) (ih (k + 1) fu _ (by omega) (by omega) (fun i hi => ?_) (fun j hj => ?_))))))
    · by_cases z : i = k
      · rw [z, pk_us]
      · rw [pk_un (by omega)]; exact h1 i (by omega)
    · rw [pk_un (by omega)]; exact h2 j hj
theorem y_name {post : SY → Prop} {f N P : Nat} {K : Nat → Int32} {L R rt ds : Nat → Nat} {c : Nat → mt_T} (hf : f < 5) (h74 : 74 ≤ N) (hN : N ≤ 900) (hP2 : P ≤ 2) (hpa : ya_parameters f = nI P)
    (hg : yw_ok N ya_form ya_same ya_one ya_two K L R rt ds c) (hlp : ∀ p, p < P → (mt_enc (c (72 + p))).length ≤ 14) (hl0 : (mt_enc (c 0)).length ≤ 14)
    (hP : ∀ te nm td nu tx (co : Nat → Int32), (∀ i, i < (mt_encs ((ow_st P).map c)).length → co (48 * f + i) = nI ((cn_go [] (mt_encs ((ow_st P).map c))).getD i 0)) → (∀ j, j < 48 * f ∨ 48 * f + 48 ≤ j → co j = ya_codes j) →
      post (yf_place, yf_points, nm, te, yf_made, yf_entry, yf_waiting, yf_values, yf_bound, yf_cells, yf_conses, yf_lams, yf_steps, yf_atWork, yf_end, yf_writtenCount, ya_kind, ya_up, ya_turn, ya_depth, ya_value, ya_below, ya_length, ya_parameters, co, (upd ya_codeCount f (nI (mt_encs ((ow_st P).map c)).length)), ya_form, ya_colour, ya_same, ya_one, ya_two, td, nu, tx, ya_ofFunction, ya_codeEnd, ya_instance, ya_token, ya_env, ya_tag, ya_cellEnv, ya_boundNext, ya_step, ya_boundNumber, ya_boundTag, ya_headTag, ya_tailTag, ya_number, ya_boundValue, ya_head, ya_tail, ya_written)) :
    wpY_name post (yf_place, yf_points, yf_names, yf_textEnd, yf_made, yf_entry, yf_waiting, yf_values, yf_bound, yf_cells, yf_conses, yf_lams, yf_steps, yf_atWork, yf_end, yf_writtenCount, ya_kind, ya_up, ya_turn, ya_depth, ya_value, ya_below, ya_length, ya_parameters, ya_codes, ya_codeCount, ya_form, ya_colour, ya_same, ya_one, ya_two, ya_todo, ya_numbered, ya_text, ya_ofFunction, ya_codeEnd, ya_instance, ya_token, ya_env, ya_tag, ya_cellEnv, ya_boundNext, ya_step, ya_boundNumber, ya_boundTag, ya_headTag, ya_tailTag, ya_number, ya_boundValue, ya_head, ya_tail, ya_written) (nI f) := by
  have hpl := pr_le hlp P (Nat.le_refl _)
  have hle : (mt_encs ((ow_st P).map c)).length ≤ 42 := by rw [ow_enc, List.length_append]; omega
  have hcg : (cn_go [] (mt_encs ((ow_st P).map c))).length = (mt_encs ((ow_st P).map c)).length := wr_len false [] _
  unfold wpY_name
  refine y_writeAll (by omega) h74 hN hP2 hpa hg hlp hl0 (fun nm td nu tx htx => Exists.intro ((mt_encs ((ow_st P).map c)).length + 1) ?_)
  have key := y_nm8 (ya_todo := td) (ya_numbered := nu) (ya_text := tx) (yf_names := nm) (post := post) (f := f) (Lc := cn_go [] (mt_encs ((ow_st P).map c))) hf (by rw [hcg]; exact hle) (fun k hk => wr_lt (cl := false) hle k hk) (fun i hi => htx i (by rw [← hcg]; exact hi)) (fun co k1 k2 => by rw [hcg] at k1 ⊢; exact hP _ nm td nu tx co k1 k2) (mt_encs ((ow_st P).map c)).length 0 ((mt_encs ((ow_st P).map c)).length + 1) ya_codes (by omega) (by omega) (fun i hi => by omega) (fun _ _ => rfl)
  rw [hcg] at key
  exact key

variable {yf_place yf_points yf_names yf_textEnd yf_made yf_entry yf_waiting yf_values yf_bound yf_cells yf_conses yf_lams yf_steps yf_atWork yf_end yf_writtenCount : Int32} {ya_kind ya_up ya_turn ya_depth ya_value ya_below ya_length ya_parameters ya_codes ya_codeCount ya_form ya_colour ya_same ya_one ya_two ya_todo ya_numbered ya_text ya_ofFunction ya_codeEnd ya_instance ya_token ya_env ya_tag ya_cellEnv ya_boundNext ya_step ya_boundNumber ya_boundTag ya_headTag ya_tailTag ya_number ya_boundValue ya_head ya_tail ya_written : Nat → Int32}
/-- what Y's solved points are while types are written -/
def yw_ok (N : Nat) (fo sa on tw : Nat → Int32) (K : Nat → Int32) (L R rt ds : Nat → Nat) (c : Nat → mt_T) : Prop :=
  yg_ok N fo sa on tw K L R rt ds ∧ (∀ n, n < N → c n = c (rt n)) ∧ (∀ n, n < N → K n ≠ 5 → (K n = 10 → c n = .leaf (10 + n)) ∧ (K n ≠ 10 → c n = gr_at K L R c n))
theorem yw_of {N : Nat} {fo sa on tw K : Nat → Int32} {L R rt ds : Nat → Nat} {c : Nat → mt_T} (hg : yg_ok N fo sa on tw K L R rt ds) (hm : mg_is N (gr_sat N K L R) c) (hv : ∀ n, n < N → K n = 10 → c n = .leaf (10 + n)) : yw_ok N fo sa on tw K L R rt ds c :=
  ⟨hg, fun n hn => fo_eq hg.2 (mg_self hm) _ n hn rfl, fun n hn _ => ⟨hv n hn, fun _ => mg_self hm n hn⟩⟩
theorem y_write {post : Int32 → SY → Prop} {N fr p : Nat} {cl : Bool} {x2 nm0 : Int32} {K : Nat → Int32} {L R rt ds : Nat → Nat} {c : Nat → mt_T} {vs0 : List Nat} (hN : N ≤ 900) (hfr : fr ≤ 30) (hp : p < N) (hx2 : x2 = if cl then 0 else 1) (hvl : vs0.length ≤ 28)
    (hg : yw_ok N ya_form ya_same ya_one ya_two K L R rt ds c) (hnm : cl = false → nm0 = nI vs0.length ∧ nb_ok N vs0 ya_numbered) (hO : ∀ k, k < (wr_f cl vs0 (mt_enc (c p))).length → (wr_f cl vs0 (mt_enc (c p))).getD k 0 < 100)
    (hP1 : ∀ nm td nu tx, (mt_enc (c p)).length ≤ 14 → (cl = false → nm = nI (cn_seen vs0 (mt_enc (c p))).length ∧ nb_ok N (cn_seen vs0 (mt_enc (c p))) nu) → (cl = true → nm = nm0 ∧ nu = ya_numbered) → (∀ i, i < (mt_enc (c p)).length → tx (fr + i) = nI ((wr_f cl vs0 (mt_enc (c p))).getD i 0)) → (∀ i, i < fr → tx i = ya_text i) →
      post 1 (yf_place, yf_points, nm, (nI (fr + (mt_enc (c p)).length)), yf_made, yf_entry, yf_waiting, yf_values, yf_bound, yf_cells, yf_conses, yf_lams, yf_steps, yf_atWork, yf_end, yf_writtenCount, ya_kind, ya_up, ya_turn, ya_depth, ya_value, ya_below, ya_length, ya_parameters, ya_codes, ya_codeCount, ya_form, ya_colour, ya_same, ya_one, ya_two, td, nu, tx, ya_ofFunction, ya_codeEnd, ya_instance, ya_token, ya_env, ya_tag, ya_cellEnv, ya_boundNext, ya_step, ya_boundNumber, ya_boundTag, ya_headTag, ya_tailTag, ya_number, ya_boundValue, ya_head, ya_tail, ya_written))
    (hP0 : ∀ nm td nu tx, 14 < (mt_enc (c p)).length → post 0 (yf_place, yf_points, nm, (nI (fr + 15)), yf_made, yf_entry, yf_waiting, yf_values, yf_bound, yf_cells, yf_conses, yf_lams, yf_steps, yf_atWork, yf_end, yf_writtenCount, ya_kind, ya_up, ya_turn, ya_depth, ya_value, ya_below, ya_length, ya_parameters, ya_codes, ya_codeCount, ya_form, ya_colour, ya_same, ya_one, ya_two, td, nu, tx, ya_ofFunction, ya_codeEnd, ya_instance, ya_token, ya_env, ya_tag, ya_cellEnv, ya_boundNext, ya_step, ya_boundNumber, ya_boundTag, ya_headTag, ya_tailTag, ya_number, ya_boundValue, ya_head, ya_tail, ya_written)) : wpY_write post (yf_place, yf_points, nm0, (nI fr), yf_made, yf_entry, yf_waiting, yf_values, yf_bound, yf_cells, yf_conses, yf_lams, yf_steps, yf_atWork, yf_end, yf_writtenCount, ya_kind, ya_up, ya_turn, ya_depth, ya_value, ya_below, ya_length, ya_parameters, ya_codes, ya_codeCount, ya_form, ya_colour, ya_same, ya_one, ya_two, ya_todo, ya_numbered, ya_text, ya_ofFunction, ya_codeEnd, ya_instance, ya_token, ya_env, ya_tag, ya_cellEnv, ya_boundNext, ya_step, ya_boundNumber, ya_boundTag, ya_headTag, ya_tailTag, ya_number, ya_boundValue, ya_head, ya_tail, ya_written) (nI p) x2 := by
  have hlen : (wr_f cl vs0 (mt_enc (c p))).length = (mt_enc (c p)).length := by
    unfold wr_f
    cases cl
    · rw [if_neg (by decide), cn_go_map, List.length_map]
    · rw [if_pos rfl, cl_0, List.length_map]
  have e1 : mt_encs ([p].map c) = mt_enc (c p) := by simp [mt_encs]
  refine nm_r (e' := upd ya_todo 0 (nI p)) (by rw [nr_s (by omega)]) (Exists.intro 17 ?_)
  refine y_wr16 (cl := cl) (c := c) (OUT := wr_f cl vs0 (mt_enc (c p))) (VS := cn_seen vs0 (mt_enc (c p))) hN hfr hx2 hO hg.1 hg.2.1 hg.2.2 (fun nm td nu tx q1 q2 q3 q4 q5 => ?_) (fun nm td nu tx q1 => hP0 nm td nu tx (by rw [hlen] at q1; exact q1)) 15 17 0 1 [p] vs0 nm0 _ _ _ (by omega) (by omega) (by rw [e1]; rfl) (by omega) ⟨rfl, fun n hn => by simp at hn; rw [hn]; exact hp, fun i hi => ?_⟩ (by omega) hnm (fun _ => ⟨rfl, rfl⟩) (fun _ => by rw [e1]) (by omega) (fun i hi => by omega) (fun i _ => rfl)
  · rw [hlen] at q1 q4 ⊢
    exact hP1 nm td nu tx q1 q2 q3 q4 q5
  · have : i = 0 := by omega
    subst this; rw [pk_us]; rfl
/-- the points that Y looks at: those of the tokens, of their variables, of the parameters -/
def yl_in (n P p : Nat) : Prop := (p < 24 ∧ p < n) ∨ (24 ≤ p ∧ p < 72 ∧ (p - 24) / 2 < n) ∨ (72 ≤ p ∧ p - 72 < P)
theorem y_large2 {post : Int32 → SY → Prop} {N row n P : Nat} {K : Nat → Int32} {L R rt ds : Nat → Nat} {c : Nat → mt_T} (h74 : 74 ≤ N) (hN : N ≤ 900) (hrow : row ≤ 10) (hn : n ≤ 24) (hP2 : P ≤ 2) (hl : ya_length row = nI n) (hpa : ya_parameters row = nI P)
    (hg : yw_ok N ya_form ya_same ya_one ya_two K L R rt ds c) (hcw : ∀ n, n < N → mt_wf (c n))
    (h1 : ∀ te nm td nu tx, (∃ p, p < 74 ∧ 14 < (mt_enc (c p)).length) → post 1 (yf_place, yf_points, nm, te, yf_made, yf_entry, yf_waiting, yf_values, yf_bound, yf_cells, yf_conses, yf_lams, yf_steps, yf_atWork, yf_end, yf_writtenCount, ya_kind, ya_up, ya_turn, ya_depth, ya_value, ya_below, ya_length, ya_parameters, ya_codes, ya_codeCount, ya_form, ya_colour, ya_same, ya_one, ya_two, td, nu, tx, ya_ofFunction, ya_codeEnd, ya_instance, ya_token, ya_env, ya_tag, ya_cellEnv, ya_boundNext, ya_step, ya_boundNumber, ya_boundTag, ya_headTag, ya_tailTag, ya_number, ya_boundValue, ya_head, ya_tail, ya_written))
    (h0 : ∀ te nm td nu tx, (∀ p, p < 74 → yl_in n P p → (mt_enc (c p)).length ≤ 14) → post 0 (yf_place, yf_points, nm, te, yf_made, yf_entry, yf_waiting, yf_values, yf_bound, yf_cells, yf_conses, yf_lams, yf_steps, yf_atWork, yf_end, yf_writtenCount, ya_kind, ya_up, ya_turn, ya_depth, ya_value, ya_below, ya_length, ya_parameters, ya_codes, ya_codeCount, ya_form, ya_colour, ya_same, ya_one, ya_two, td, nu, tx, ya_ofFunction, ya_codeEnd, ya_instance, ya_token, ya_env, ya_tag, ya_cellEnv, ya_boundNext, ya_step, ya_boundNumber, ya_boundTag, ya_headTag, ya_tailTag, ya_number, ya_boundValue, ya_head, ya_tail, ya_written)) :
    ∀ f p te nm td nu tx, p ≤ 74 → 74 < f + p → (∀ q, q < p → yl_in n P q → (mt_enc (c q)).length ≤ 14) → wY_isLarge_2 post (nI row) f (nI p) yf_place yf_points nm te yf_made yf_entry yf_waiting yf_values yf_bound yf_cells yf_conses yf_lams yf_steps yf_atWork yf_end yf_writtenCount ya_kind ya_up ya_turn ya_depth ya_value ya_below ya_length ya_parameters ya_codes ya_codeCount ya_form ya_colour ya_same ya_one ya_two td nu tx ya_ofFunction ya_codeEnd ya_instance ya_token ya_env ya_tag ya_cellEnv ya_boundNext ya_step ya_boundNumber ya_boundTag ya_headTag ya_tailTag ya_number ya_boundValue ya_head ya_tail ya_written := by
  intro f
  induction f with
  | zero => intro p te nm td nu tx h1 h2; omega
  | succ f ih =>
    intro p te nm td nu tx hp hf hq
    have crow : (nI row).toNatClampNeg = row := nI_clamp (by omega)
    refine pk_le 74 p (fun h => h0 te nm td nu tx (fun q hq1 hq2 => hq q (by omega) hq2)) (fun h => ?_)
    have out : ¬ yl_in n P p → wY_isLarge_67 post (wY_isLarge_2 post (nI row) f) (nI row) (nI p) 0 yf_place yf_points nm te yf_made yf_entry yf_waiting yf_values yf_bound yf_cells yf_conses yf_lams yf_steps yf_atWork yf_end yf_writtenCount ya_kind ya_up ya_turn ya_depth ya_value ya_below ya_length ya_parameters ya_codes ya_codeCount ya_form ya_colour ya_same ya_one ya_two td nu tx ya_ofFunction ya_codeEnd ya_instance ya_token ya_env ya_tag ya_cellEnv ya_boundNext ya_step ya_boundNumber ya_boundTag ya_headTag ya_tailTag ya_number ya_boundValue ya_head ya_tail ya_written := by
      intro hni
      refine br_t rfl (nm_r (nI_1 p) (ih (p + 1) 0 nm td nu tx (by omega) (by omega) (fun q hq1 hq2 => ?_)))
      by_cases z : q = p
      · subst z; exact absurd hq2 hni
      · exact hq q (by omega) hq2
    have inn : yl_in n P p → wY_isLarge_67 post (wY_isLarge_2 post (nI row) f) (nI row) (nI p) 1 yf_place yf_points nm te yf_made yf_entry yf_waiting yf_values yf_bound yf_cells yf_conses yf_lams yf_steps yf_atWork yf_end yf_writtenCount ya_kind ya_up ya_turn ya_depth ya_value ya_below ya_length ya_parameters ya_codes ya_codeCount ya_form ya_colour ya_same ya_one ya_two td nu tx ya_ofFunction ya_codeEnd ya_instance ya_token ya_env ya_tag ya_cellEnv ya_boundNext ya_step ya_boundNumber ya_boundTag ya_headTag ya_tailTag ya_number ya_boundValue ya_head ya_tail ya_written := by
      intro hni
      refine br_f n1_0 (y_write (fr := 0) (cl := true) (vs0 := []) hN (by omega) (by omega) rfl (by simp) hg (fun z => absurd z (by decide)) (fun k hk => ?_) (fun nm2 td2 nu2 tx2 q1 q2 q3 q4 q5 => ?_) (fun nm2 td2 nu2 tx2 q1 => ?_))
      · have hcl : ∀ d ∈ cl_0 (mt_enc (c p)), d < 100 := by
          intro d hd
          obtain ⟨e, he, rfl⟩ := List.mem_map.mp hd
          unfold mt_rn
          split
          · omega
          · show (0 : Nat) < 100
            omega
        exact hcl _ (gd_mem _ k hk)
      · obtain ⟨e1, e2⟩ := q3 rfl
        subst e1; subst e2
        refine br_f n1_0 (nm_r (nI_1 p) (ih (p + 1) _ _ td2 _ tx2 (by omega) (by omega) (fun q hq1 hq2 => ?_)))
        by_cases z : q = p
        · subst z; exact q1
        · exact hq q (by omega) hq2
      · exact br_t rfl (h1 _ nm2 td2 nu2 tx2 ⟨p, by omega, q1⟩)
    refine pk_le 24 p (fun h24 => And.intro (by decide) ?_) (fun h24 => ?_)
    · have ed : (nI p - 24) / 2 = nI ((p - 24) / 2) := by
        have e1 : nI p - 24 = nI (p - 24) := pk_sub (b := 24) h24
        rw [e1]; exact pk_div (d := 2) (by omega) (by omega) (by omega)
      rw [ed]
      refine pk_le p 71 (fun h71 => And.intro (pk_in row 11 (by omega)) ?_) (fun h71 => And.intro (pk_in row 11 (by omega)) ?_)
      · rw [crow, hl]
        exact pk_le n ((p - 24) / 2) (fun z => out (by rintro (⟨q, _⟩ | ⟨_, _, q⟩ | ⟨q, _⟩) <;> omega)) (fun z => inn (Or.inr (Or.inl ⟨h24, by omega, z⟩)))
      · have e72 : nI p - 72 = nI (p - 72) := pk_sub (b := 72) (by omega)
        rw [crow, hpa, e72]
        exact pk_le P (p - 72) (fun z => out (by rintro (⟨q, _⟩ | ⟨_, q, _⟩ | ⟨_, q⟩) <;> omega)) (fun z => inn (Or.inr (Or.inr ⟨by omega, z⟩)))
    · refine br_t (nI_le (b := 71) (by omega) (by omega)) (And.intro (pk_in row 11 (by omega)) ?_)
      rw [crow, hl]
      exact pk_le n p (fun z => out (by rintro (⟨_, q⟩ | ⟨q, _⟩ | ⟨q, _⟩) <;> omega)) (fun z => inn (Or.inl ⟨h24, z⟩))
theorem y_isLarge {post : Int32 → SY → Prop} {N row n P : Nat} {K : Nat → Int32} {L R rt ds : Nat → Nat} {c : Nat → mt_T} (h74 : 74 ≤ N) (hN : N ≤ 900) (hrow : row ≤ 10) (hn : n ≤ 24) (hP2 : P ≤ 2) (hl : ya_length row = nI n) (hpa : ya_parameters row = nI P)
    (hg : yw_ok N ya_form ya_same ya_one ya_two K L R rt ds c) (hcw : ∀ n, n < N → mt_wf (c n))
    (h1 : ∀ te nm td nu tx, (∃ p, p < 74 ∧ 14 < (mt_enc (c p)).length) → post 1 (yf_place, yf_points, nm, te, yf_made, yf_entry, yf_waiting, yf_values, yf_bound, yf_cells, yf_conses, yf_lams, yf_steps, yf_atWork, yf_end, yf_writtenCount, ya_kind, ya_up, ya_turn, ya_depth, ya_value, ya_below, ya_length, ya_parameters, ya_codes, ya_codeCount, ya_form, ya_colour, ya_same, ya_one, ya_two, td, nu, tx, ya_ofFunction, ya_codeEnd, ya_instance, ya_token, ya_env, ya_tag, ya_cellEnv, ya_boundNext, ya_step, ya_boundNumber, ya_boundTag, ya_headTag, ya_tailTag, ya_number, ya_boundValue, ya_head, ya_tail, ya_written))
    (h0 : ∀ te nm td nu tx, (∀ p, p < 74 → yl_in n P p → (mt_enc (c p)).length ≤ 14) → post 0 (yf_place, yf_points, nm, te, yf_made, yf_entry, yf_waiting, yf_values, yf_bound, yf_cells, yf_conses, yf_lams, yf_steps, yf_atWork, yf_end, yf_writtenCount, ya_kind, ya_up, ya_turn, ya_depth, ya_value, ya_below, ya_length, ya_parameters, ya_codes, ya_codeCount, ya_form, ya_colour, ya_same, ya_one, ya_two, td, nu, tx, ya_ofFunction, ya_codeEnd, ya_instance, ya_token, ya_env, ya_tag, ya_cellEnv, ya_boundNext, ya_step, ya_boundNumber, ya_boundTag, ya_headTag, ya_tailTag, ya_number, ya_boundValue, ya_head, ya_tail, ya_written)) : wpY_isLarge post (yf_place, yf_points, yf_names, yf_textEnd, yf_made, yf_entry, yf_waiting, yf_values, yf_bound, yf_cells, yf_conses, yf_lams, yf_steps, yf_atWork, yf_end, yf_writtenCount, ya_kind, ya_up, ya_turn, ya_depth, ya_value, ya_below, ya_length, ya_parameters, ya_codes, ya_codeCount, ya_form, ya_colour, ya_same, ya_one, ya_two, ya_todo, ya_numbered, ya_text, ya_ofFunction, ya_codeEnd, ya_instance, ya_token, ya_env, ya_tag, ya_cellEnv, ya_boundNext, ya_step, ya_boundNumber, ya_boundTag, ya_headTag, ya_tailTag, ya_number, ya_boundValue, ya_head, ya_tail, ya_written) (nI row) :=
  Exists.intro 75 (y_large2 h74 hN hrow hn hP2 hl hpa hg hcw h1 h0 75 0 _ _ _ _ _ (by omega) (by omega) (fun q hq => by omega))
theorem cn_app : ∀ a b vs : List Nat, cn_go vs (a ++ b) = cn_go vs a ++ cn_go (cn_seen vs a) b := by
  intro a
  induction a with
  | nil => intro b vs; rfl
  | cons c a ih =>
    intro b vs
    by_cases h : c < 10
    · simp only [List.cons_append, cn_go, cn_seen, if_pos h, ih]
    · by_cases m : c ∈ vs
      · simp only [List.cons_append, cn_go, cn_seen, if_neg h, if_pos m, ih]
      · simp only [List.cons_append, cn_go, cn_seen, if_neg h, if_neg m, ih]
theorem cs_app : ∀ a b vs : List Nat, cn_seen vs (a ++ b) = cn_seen (cn_seen vs a) b := by
  intro a
  induction a with
  | nil => intro b vs; rfl
  | cons c a ih =>
    intro b vs
    by_cases h : c < 10
    · simp only [List.cons_append, cn_seen, if_pos h, ih]
    · by_cases m : c ∈ vs
      · simp only [List.cons_append, cn_seen, if_neg h, if_pos m, ih]
      · simp only [List.cons_append, cn_seen, if_neg h, if_neg m, ih]
theorem cs_len : ∀ a vs : List Nat, (cn_seen vs a).length ≤ vs.length + a.length := by
  intro a
  induction a with
  | nil => intro vs; simp [cn_seen]
  | cons c a ih =>
    intro vs
    by_cases h : c < 10
    · simp only [cn_seen, if_pos h, List.length_cons]; have := ih vs; omega
    · by_cases m : c ∈ vs
      · simp only [cn_seen, if_neg h, if_pos m, List.length_cons]; have := ih vs; omega
      · simp only [cn_seen, if_neg h, if_neg m, List.length_cons]; have := ih (vs ++ [c]); simp only [List.length_append, List.length_cons, List.length_nil] at this; omega
theorem cn_bd : ∀ a vs : List Nat, ∀ d ∈ cn_go vs a, d < 10 + vs.length + a.length := by
  intro a
  induction a with
  | nil => intro vs d hd; simp [cn_go] at hd
  | cons c a ih =>
    intro vs d hd
    by_cases h : c < 10
    · simp only [cn_go, if_pos h, List.mem_cons] at hd
      simp only [List.length_cons]
      rcases hd with rfl | hd
      · omega
      · have := ih vs d hd; omega
    · by_cases m : c ∈ vs
      · simp only [cn_go, if_neg h, if_pos m, List.mem_cons] at hd
        simp only [List.length_cons]
        rcases hd with rfl | hd
        · have := cn_ix_lt vs m; omega
        · have := ih vs d hd; omega
      · simp only [cn_go, if_neg h, if_neg m, List.mem_cons] at hd
        simp only [List.length_cons]
        rcases hd with rfl | hd
        · omega
        · have := ih (vs ++ [c]) d hd; simp only [List.length_append, List.length_cons, List.length_nil] at this; omega

variable {yf_place yf_points yf_names yf_textEnd yf_made yf_entry yf_waiting yf_values yf_bound yf_cells yf_conses yf_lams yf_steps yf_atWork yf_end yf_writtenCount : Int32} {ya_kind ya_up ya_turn ya_depth ya_value ya_below ya_length ya_parameters ya_codes ya_codeCount ya_form ya_colour ya_same ya_one ya_two ya_todo ya_numbered ya_text ya_ofFunction ya_codeEnd ya_instance ya_token ya_env ya_tag ya_cellEnv ya_boundNext ya_step ya_boundNumber ya_boundTag ya_headTag ya_tailTag ya_number ya_boundValue ya_head ya_tail ya_written : Nat → Int32}
theorem fi_ct0 {cN : Nat → Nat} {N : Nat} (h : ∀ n, n < N → cN n = 0 ∨ cN n = 3) : fi_ct cN N = 0 := by
  unfold fi_ct
  have : sm (fun n => if cN n = 1 ∨ cN n = 2 then 1 else 0) N = sm (fun _ => 0) N := sm_same N (fun j hj => by
    have := h j hj
    have e : ¬ (cN j = 1 ∨ cN j = 2) := by omega
    simp only [if_neg e])
  rw [this]
  have := sm_le (g := fun _ => 0) (b := 0) N (fun j _ => Nat.le_refl 0)
  omega
theorem y_f25 {post : Int32 → SY → Prop} {N : Nat} {K : Nat → Int32} {L R rt ds : Nat → Nat} (hN : N ≤ 900) (hg : yg_ok N ya_form ya_same ya_one ya_two K L R rt ds)
    (hP1 : ∀ (C' T' : Nat → Int32) (c : Nat → mt_T), mg_is N (gr_sat N K L R) c → (∀ n, n < N → K n = 10 → c n = .leaf (10 + n)) → post 1 (yf_place, (nI N), yf_names, yf_textEnd, yf_made, yf_entry, yf_waiting, yf_values, yf_bound, yf_cells, yf_conses, yf_lams, yf_steps, yf_atWork, yf_end, yf_writtenCount, ya_kind, ya_up, ya_turn, ya_depth, ya_value, ya_below, ya_length, ya_parameters, ya_codes, ya_codeCount, ya_form, C', ya_same, ya_one, ya_two, T', ya_numbered, ya_text, ya_ofFunction, ya_codeEnd, ya_instance, ya_token, ya_env, ya_tag, ya_cellEnv, ya_boundNext, ya_step, ya_boundNumber, ya_boundTag, ya_headTag, ya_tailTag, ya_number, ya_boundValue, ya_head, ya_tail, ya_written))
    (hP0 : ∀ C' T', (∀ r, ¬ gr_sat N K L R r) → post 0 (yf_place, (nI N), yf_names, yf_textEnd, yf_made, yf_entry, yf_waiting, yf_values, yf_bound, yf_cells, yf_conses, yf_lams, yf_steps, yf_atWork, yf_end, yf_writtenCount, ya_kind, ya_up, ya_turn, ya_depth, ya_value, ya_below, ya_length, ya_parameters, ya_codes, ya_codeCount, ya_form, C', ya_same, ya_one, ya_two, T', ya_numbered, ya_text, ya_ofFunction, ya_codeEnd, ya_instance, ya_token, ya_env, ya_tag, ya_cellEnv, ya_boundNext, ya_step, ya_boundNumber, ya_boundTag, ya_headTag, ya_tailTag, ya_number, ya_boundValue, ya_head, ya_tail, ya_written)) :
    ∀ (f i : Nat) (C T : Nat → Int32) (cN : Nat → Nat) (c : Nat → mt_T), N < f + i → i ≤ N → (∀ n, n < N → C n = nI (cN n)) → (∀ n, n < N → cN n = 0 ∨ cN n = 3) → (∀ n, n < N → K n = 5 → cN n = 0) →
      gr_M N K (fun n => rt (L n)) (fun n => rt (R n)) (fun n => cN n = 3) c → (∀ m, m < i → cN (rt m) = 3) →
      wY_finite_25 post yf_place (nI N) yf_names yf_textEnd yf_made yf_entry yf_waiting yf_values yf_bound yf_cells yf_conses yf_lams yf_steps yf_atWork yf_end yf_writtenCount f (nI i) ya_kind ya_up ya_turn ya_depth ya_value ya_below ya_length ya_parameters ya_codes ya_codeCount ya_form C ya_same ya_one ya_two T ya_numbered ya_text ya_ofFunction ya_codeEnd ya_instance ya_token ya_env ya_tag ya_cellEnv ya_boundNext ya_step ya_boundNumber ya_boundTag ya_headTag ya_tailTag ya_number ya_boundValue ya_head ya_tail ya_written := by
  have hlow : ∀ n, n < N → gr_lf (K n) → L n < N := fun n hn h => ((hg.1 n hn).2.2.2.2.2.1 h).2
  have hrow : ∀ n, n < N → gr_rg (K n) → R n < N := fun n hn h => ((hg.1 n hn).2.2.2.2.2.2.1 h).2
  intro f
  induction f with
  | zero => intro i C T cN c h1 h2; omega
  | succ f ih =>
    intro i C T cN c hf hi hC h03 h5 hM hD
    refine pk_le N i (fun h => ?_) (fun h => ?_)
    · have hroot : ∀ n, n < N → K n ≠ 5 → cN n = 3 := by
        intro n hn hk
        have := hD n (by omega)
        rw [((hg.2 n hn).2.2.1 hk).1] at this
        exact this
      obtain ⟨c', hc'⟩ := gr_M_links hM hroot (fun n hn hk => ⟨(hg.2 _ ((hg.2 n hn).2.2.2.1 hk).1).1, (hg.2 _ ((hg.2 n hn).2.2.2.1 hk).1).2.1⟩) N (Nat.le_refl _)
      have hmg := gr_M_mg hc' (fun n hn => Or.inr hn) (fun n hn => (hg.1 n hn).1)
      exact hP1 C T c' (mg_iff hmg (fun r => gr_comp hg.2 hlow hrow r)) (fun n hn hk => (hc'.2 n hn (Or.inr hn)).1 hk)
    · obtain ⟨r1, r2, _⟩ := hg.2 i h
      refine y_find hN hg h (And.intro (pk_in (rt i) 900 (by omega)) ?_)
      have cr : (nI (rt i)).toNatClampNeg = rt i := nI_clamp (by omega)
      rw [cr, hC _ r1]
      have next : ∀ (C' T' : Nat → Int32) (cN' : Nat → Nat) (c' : Nat → mt_T), (∀ n, n < N → C' n = nI (cN' n)) → (∀ n, n < N → cN' n = 0 ∨ cN' n = 3) → (∀ n, n < N → K n = 5 → cN' n = 0) →
          gr_M N K (fun n => rt (L n)) (fun n => rt (R n)) (fun n => cN' n = 3) c' → (∀ n, (∃ m, m < i ∧ rt m = n) → cN' n = 3) → cN' (rt i) = 3 →
          wY_finite_25 post yf_place (nI N) yf_names yf_textEnd yf_made yf_entry yf_waiting yf_values yf_bound yf_cells yf_conses yf_lams yf_steps yf_atWork yf_end yf_writtenCount f (nI i + 1) ya_kind ya_up ya_turn ya_depth ya_value ya_below ya_length ya_parameters ya_codes ya_codeCount ya_form C' ya_same ya_one ya_two T' ya_numbered ya_text ya_ofFunction ya_codeEnd ya_instance ya_token ya_env ya_tag ya_cellEnv ya_boundNext ya_step ya_boundNumber ya_boundTag ya_headTag ya_tailTag ya_number ya_boundValue ya_head ya_tail ya_written := by
        intro C' T' cN' c' q1 q2 q3 q4 q5 q6
        rw [nI_1]
        refine ih (i + 1) C' T' cN' c' (by omega) (by omega) q1 q2 q3 q4 (fun m hm => ?_)
        by_cases z : m = i
        · rw [z]; exact q6
        · exact q5 _ ⟨m, by omega, rfl⟩
      refine pk_eq (cN (rt i)) 0 (fun z => nm_r (e' := nI 1) rfl (nm_r (e' := upd T 0 (nI (rt i))) (by rw [nr_s (by omega)]) (Exists.intro (fi_w cN N + 1) ?_))) (fun z => Exists.intro (fi_w cN N + 1) ?_) rfl rfl (by have := h03 _ r1; omega) (by omega)
      · refine y_f61 (Dn := fun n => ∃ m, m < i ∧ rt m = n) (r0 := rt i) hN hg next hP0 _ 1 C _ cN (fun _ => rt i) c ⟨fun n hn => ⟨by have := h03 n hn; omega, h5 n hn⟩, fun j hj => ⟨r1, r2, fun j' hj' => by omega, fun q => by omega, fun _ => ?_⟩, fun n hn q => ?_, Or.inr ⟨by rw [fi_ct0 h03], fun _ _ => z⟩⟩ hC (fun j hj => ?_) hM ?_ (Or.inr ⟨by omega, rfl⟩) (by omega)
        · rw [z]; exact ⟨by omega, fun q => by omega, fun q => by omega⟩
        · have := h03 n hn; omega
        · have : j = 0 := by omega
          subst this; exact pk_us
        · rintro n ⟨m, hm, rfl⟩; exact hD m hm
      · have z3 : cN (rt i) = 3 := by have := h03 _ r1; omega
        refine y_f61 (Dn := fun n => ∃ m, m < i ∧ rt m = n) (r0 := rt i) hN hg next hP0 _ 0 C T cN (fun _ => rt i) c ⟨fun n hn => ⟨by have := h03 n hn; omega, h5 n hn⟩, fun j hj => by omega, fun n hn q => ?_, Or.inl ⟨by rw [fi_ct0 h03], fun j hj => by omega⟩⟩ hC (fun j hj => by omega) hM ?_ (Or.inl z3) (by omega)
        · have := h03 n hn; omega
        · rintro n ⟨m, hm, rfl⟩; exact hD m hm
theorem y_f2 {post : Int32 → SY → Prop} {N : Nat} (hN : N ≤ 900)
    (hP : ∀ C', (∀ n, n < N → C' n = 0) → ∃ n25, wY_finite_25 post yf_place (nI N) yf_names yf_textEnd yf_made yf_entry yf_waiting yf_values yf_bound yf_cells yf_conses yf_lams yf_steps yf_atWork yf_end yf_writtenCount n25 0 ya_kind ya_up ya_turn ya_depth ya_value ya_below ya_length ya_parameters ya_codes ya_codeCount ya_form C' ya_same ya_one ya_two ya_todo ya_numbered ya_text ya_ofFunction ya_codeEnd ya_instance ya_token ya_env ya_tag ya_cellEnv ya_boundNext ya_step ya_boundNumber ya_boundTag ya_headTag ya_tailTag ya_number ya_boundValue ya_head ya_tail ya_written) :
    ∀ f i C, i ≤ N → N < f + i → (∀ n, n < i → C n = 0) → wY_finite_2 post yf_place (nI N) yf_names yf_textEnd yf_made yf_entry yf_waiting yf_values yf_bound yf_cells yf_conses yf_lams yf_steps yf_atWork yf_end yf_writtenCount f (nI i) ya_kind ya_up ya_turn ya_depth ya_value ya_below ya_length ya_parameters ya_codes ya_codeCount ya_form C ya_same ya_one ya_two ya_todo ya_numbered ya_text ya_ofFunction ya_codeEnd ya_instance ya_token ya_env ya_tag ya_cellEnv ya_boundNext ya_step ya_boundNumber ya_boundTag ya_headTag ya_tailTag ya_number ya_boundValue ya_head ya_tail ya_written := by
  intro f
  induction f with
  | zero => intro i C h1 h2; omega
  | succ f ih =>
    intro i C h1 h2 hz
    refine pk_le N i (fun h => hP C (fun n hn => hz n (by omega))) (fun h => And.intro (pk_in i 900 (by omega)) (nm_r (e' := upd C i 0) (by rw [nI_clamp (by omega)]; exact congrArg (upd C i) (nr_b0 (n := 0) (by omega))) (nm_r (nI_1 i) (ih (i + 1) _ (by omega) (by omega) (fun n hn => ?_)))))
    by_cases z : n = i
    · subst z; exact pk_us
    · rw [pk_un z]; exact hz n (by omega)
theorem y_finite {post : Int32 → SY → Prop} {N : Nat} {K : Nat → Int32} {L R rt ds : Nat → Nat} (hN : N ≤ 900) (hg : yg_ok N ya_form ya_same ya_one ya_two K L R rt ds)
    (hP1 : ∀ (C' T' : Nat → Int32) (c : Nat → mt_T), mg_is N (gr_sat N K L R) c → (∀ n, n < N → K n = 10 → c n = .leaf (10 + n)) → post 1 (yf_place, (nI N), yf_names, yf_textEnd, yf_made, yf_entry, yf_waiting, yf_values, yf_bound, yf_cells, yf_conses, yf_lams, yf_steps, yf_atWork, yf_end, yf_writtenCount, ya_kind, ya_up, ya_turn, ya_depth, ya_value, ya_below, ya_length, ya_parameters, ya_codes, ya_codeCount, ya_form, C', ya_same, ya_one, ya_two, T', ya_numbered, ya_text, ya_ofFunction, ya_codeEnd, ya_instance, ya_token, ya_env, ya_tag, ya_cellEnv, ya_boundNext, ya_step, ya_boundNumber, ya_boundTag, ya_headTag, ya_tailTag, ya_number, ya_boundValue, ya_head, ya_tail, ya_written))
    (hP0 : ∀ C' T', (∀ r, ¬ gr_sat N K L R r) → post 0 (yf_place, (nI N), yf_names, yf_textEnd, yf_made, yf_entry, yf_waiting, yf_values, yf_bound, yf_cells, yf_conses, yf_lams, yf_steps, yf_atWork, yf_end, yf_writtenCount, ya_kind, ya_up, ya_turn, ya_depth, ya_value, ya_below, ya_length, ya_parameters, ya_codes, ya_codeCount, ya_form, C', ya_same, ya_one, ya_two, T', ya_numbered, ya_text, ya_ofFunction, ya_codeEnd, ya_instance, ya_token, ya_env, ya_tag, ya_cellEnv, ya_boundNext, ya_step, ya_boundNumber, ya_boundTag, ya_headTag, ya_tailTag, ya_number, ya_boundValue, ya_head, ya_tail, ya_written)) : wpY_finite post (yf_place, (nI N), yf_names, yf_textEnd, yf_made, yf_entry, yf_waiting, yf_values, yf_bound, yf_cells, yf_conses, yf_lams, yf_steps, yf_atWork, yf_end, yf_writtenCount, ya_kind, ya_up, ya_turn, ya_depth, ya_value, ya_below, ya_length, ya_parameters, ya_codes, ya_codeCount, ya_form, ya_colour, ya_same, ya_one, ya_two, ya_todo, ya_numbered, ya_text, ya_ofFunction, ya_codeEnd, ya_instance, ya_token, ya_env, ya_tag, ya_cellEnv, ya_boundNext, ya_step, ya_boundNumber, ya_boundTag, ya_headTag, ya_tailTag, ya_number, ya_boundValue, ya_head, ya_tail, ya_written) := by
  refine Exists.intro (N + 1) (y_f2 hN (fun C' hz => Exists.intro (N + 1) ?_) (N + 1) 0 _ (by omega) (by omega) (fun n hn => by omega))
  exact y_f25 hN hg hP1 hP0 (N + 1) 0 C' _ (fun _ => 0) (fun _ => .leaf 0) (by omega) (by omega) (fun n hn => by rw [hz n hn]; rfl) (fun n hn => Or.inl rfl) (fun n hn _ => rfl)
    (gr_M_0 (fun n hn h => by omega)) (fun m hm => by omega)

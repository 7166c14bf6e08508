variable {yf_place yf_points yf_names yf_textEnd yf_made yf_entry yf_waiting yf_values yf_bound yf_cells yf_conses yf_lams yf_steps yf_atWork yf_end yf_writtenCount : Int32} {ya_kind ya_up ya_turn ya_depth ya_value ya_below ya_length ya_parameters ya_codes ya_codeCount ya_form ya_colour ya_same ya_one ya_two ya_todo ya_numbered ya_text ya_ofFunction ya_codeEnd ya_instance ya_token ya_env ya_tag ya_cellEnv ya_boundNext ya_step ya_boundNumber ya_boundTag ya_headTag ya_tailTag ya_number ya_boundValue ya_head ya_tail ya_written : Nat → Int32}
theorem yc_low {N : Nat} {fo sa on tw : Nat → Int32} {C : (Nat → mt_T) → Prop} (h : yc_ok N fo sa on tw C) {r r' : Nat → mt_T} (e : ∀ n, n < N → r' n = r n) (hc : C r) : C r' := by
  obtain ⟨K, L, R, rt, ds, g, hs⟩ := h
  refine (hs r').mp (gr_sat_low (fun n hn hk => ?_) (fun n hn hk => ((g.1 n hn).2.2.2.2.2.2.1 hk).2) e ((hs r).mpr hc))
  rcases hk with z | z
  · exact ((g.2 n hn).2.2.2.1 z).1
  · exact ((g.1 n hn).2.2.2.2.2.1 z).2
def ys_ok (N : Nat) (C C' rule : (Nat → mt_T) → Prop) : Prop :=
  (∀ r, (∀ n, mt_wf (r n)) → C' r → C r ∧ rule r) ∧ (∀ r, (∀ n, mt_wf (r n)) → C r → rule r → ∃ r', (∀ n, mt_wf (r' n)) ∧ (∀ n, n < N → r' n = r n) ∧ C' r')
/-- what a rule of Y asks for behind it -/
def ys_post (post : Int32 → SY → Prop) (N M : Nat) (yf_place yf_points yf_names yf_textEnd yf_made yf_entry yf_waiting yf_values yf_bound yf_cells yf_conses yf_lams yf_steps yf_atWork yf_end yf_writtenCount : Int32) (ya_kind ya_up ya_turn ya_depth ya_value ya_below ya_length ya_parameters ya_codes ya_codeCount ya_form ya_colour ya_same ya_one ya_two ya_todo ya_numbered ya_text ya_ofFunction ya_codeEnd ya_instance ya_token ya_env ya_tag ya_cellEnv ya_boundNext ya_step ya_boundNumber ya_boundTag ya_headTag ya_tailTag ya_number ya_boundValue ya_head ya_tail ya_written : Nat → Int32) (C rule : (Nat → mt_T) → Prop) : Prop :=
  (∀ (N' : Nat) (fo' sa' on' tw' td' nu' : Nat → Int32) (C' : (Nat → mt_T) → Prop), N ≤ N' → N' ≤ M → yc_ok N' fo' sa' on' tw' C' → ys_ok N C C' rule →
    post 1 (yf_place, (nI N'), yf_names, yf_textEnd, yf_made, yf_entry, yf_waiting, yf_values, yf_bound, yf_cells, yf_conses, yf_lams, yf_steps, yf_atWork, yf_end, yf_writtenCount, ya_kind, ya_up, ya_turn, ya_depth, ya_value, ya_below, ya_length, ya_parameters, ya_codes, ya_codeCount, fo', ya_colour, sa', on', tw', td', nu', ya_text, ya_ofFunction, ya_codeEnd, ya_instance, ya_token, ya_env, ya_tag, ya_cellEnv, ya_boundNext, ya_step, ya_boundNumber, ya_boundTag, ya_headTag, ya_tailTag, ya_number, ya_boundValue, ya_head, ya_tail, ya_written)) ∧
  (∀ (N' : Nat) (fo' sa' on' tw' td' nu' : Nat → Int32), (∀ r, (∀ n, mt_wf (r n)) → C r → ¬ rule r) →
    post 0 (yf_place, (nI N'), yf_names, yf_textEnd, yf_made, yf_entry, yf_waiting, yf_values, yf_bound, yf_cells, yf_conses, yf_lams, yf_steps, yf_atWork, yf_end, yf_writtenCount, ya_kind, ya_up, ya_turn, ya_depth, ya_value, ya_below, ya_length, ya_parameters, ya_codes, ya_codeCount, fo', ya_colour, sa', on', tw', td', nu', ya_text, ya_ofFunction, ya_codeEnd, ya_instance, ya_token, ya_env, ya_tag, ya_cellEnv, ya_boundNext, ya_step, ya_boundNumber, ya_boundTag, ya_headTag, ya_tailTag, ya_number, ya_boundValue, ya_head, ya_tail, ya_written))
theorem d0_e {N : Nat} {a b : Nat} {r : Nat → mt_T} : ((0 : Int32) = 10 ∨ r N = gr_at (fun _ => 0) (fun _ => a) (fun _ => b) r 0) ↔ r N = .leaf 0 :=
  ⟨fun h => h.elim (fun z => absurd z (by decide)) (fun z => z.trans (gr_at_0 (K := fun _ => 0) rfl)), fun h => Or.inr (h.trans (gr_at_0 (K := fun _ => 0) (L := fun _ => a) (R := fun _ => b) (r := r) (n := 0) rfl).symm)⟩
theorem d1_e {N : Nat} {a b : Nat} {r : Nat → mt_T} : ((1 : Int32) = 10 ∨ r N = gr_at (fun _ => 1) (fun _ => a) (fun _ => b) r 0) ↔ r N = .leaf 1 :=
  ⟨fun h => h.elim (fun z => absurd z (by decide)) (fun z => z.trans (gr_at_1 (K := fun _ => 1) rfl)), fun h => Or.inr (h.trans (gr_at_1 (K := fun _ => 1) (L := fun _ => a) (R := fun _ => b) (r := r) (n := 0) rfl).symm)⟩
theorem n0_5 : (0 : Int32) ≠ 5 := by decide
theorem n1_5 : (1 : Int32) ≠ 5 := by decide
theorem kd_0 : gr_kd 0 := Or.inl rfl
theorem kd_1 : gr_kd 1 := Or.inr (Or.inl rfl)
/-- both ends of a rule from what it has made of the points: F all of it -/
theorem ys_1 {post : Int32 → SY → Prop} {N M : Nat} {C rule F : (Nat → mt_T) → Prop} (h : ys_post post N M yf_place yf_points yf_names yf_textEnd yf_made yf_entry yf_waiting yf_values yf_bound yf_cells yf_conses yf_lams yf_steps yf_atWork yf_end yf_writtenCount ya_kind ya_up ya_turn ya_depth ya_value ya_below ya_length ya_parameters ya_codes ya_codeCount ya_form ya_colour ya_same ya_one ya_two ya_todo ya_numbered ya_text ya_ofFunction ya_codeEnd ya_instance ya_token ya_env ya_tag ya_cellEnv ya_boundNext ya_step ya_boundNumber ya_boundTag ya_headTag ya_tailTag ya_number ya_boundValue ya_head ya_tail ya_written C rule) (hF : ys_ok N C F rule) {N' : Nat} {fo' sa' on' tw' td' nu' : Nat → Int32} (h1 : N ≤ N') (h2 : N' ≤ M) (hg : yc_ok N' fo' sa' on' tw' F) :
    post 1 (yf_place, (nI N'), yf_names, yf_textEnd, yf_made, yf_entry, yf_waiting, yf_values, yf_bound, yf_cells, yf_conses, yf_lams, yf_steps, yf_atWork, yf_end, yf_writtenCount, ya_kind, ya_up, ya_turn, ya_depth, ya_value, ya_below, ya_length, ya_parameters, ya_codes, ya_codeCount, fo', ya_colour, sa', on', tw', td', nu', ya_text, ya_ofFunction, ya_codeEnd, ya_instance, ya_token, ya_env, ya_tag, ya_cellEnv, ya_boundNext, ya_step, ya_boundNumber, ya_boundTag, ya_headTag, ya_tailTag, ya_number, ya_boundValue, ya_head, ya_tail, ya_written) := h.1 N' fo' sa' on' tw' td' nu' F h1 h2 hg hF
theorem ys_0 {post : Int32 → SY → Prop} {N M : Nat} {C rule F G : (Nat → mt_T) → Prop} (h : ys_post post N M yf_place yf_points yf_names yf_textEnd yf_made yf_entry yf_waiting yf_values yf_bound yf_cells yf_conses yf_lams yf_steps yf_atWork yf_end yf_writtenCount ya_kind ya_up ya_turn ya_depth ya_value ya_below ya_length ya_parameters ya_codes ya_codeCount ya_form ya_colour ya_same ya_one ya_two ya_todo ya_numbered ya_text ya_ofFunction ya_codeEnd ya_instance ya_token ya_env ya_tag ya_cellEnv ya_boundNext ya_step ya_boundNumber ya_boundTag ya_headTag ya_tailTag ya_number ya_boundValue ya_head ya_tail ya_written C rule) (hF : ys_ok N C F rule) {N' : Nat} {fo' sa' on' tw' td' nu' : Nat → Int32} (hG : ∀ r, F r → G r) (hn : ∀ r, ¬ G r) :
    post 0 (yf_place, (nI N'), yf_names, yf_textEnd, yf_made, yf_entry, yf_waiting, yf_values, yf_bound, yf_cells, yf_conses, yf_lams, yf_steps, yf_atWork, yf_end, yf_writtenCount, ya_kind, ya_up, ya_turn, ya_depth, ya_value, ya_below, ya_length, ya_parameters, ya_codes, ya_codeCount, fo', ya_colour, sa', on', tw', td', nu', ya_text, ya_ofFunction, ya_codeEnd, ya_instance, ya_token, ya_env, ya_tag, ya_cellEnv, ya_boundNext, ya_step, ya_boundNumber, ya_boundTag, ya_headTag, ya_tailTag, ya_number, ya_boundValue, ya_head, ya_tail, ya_written) :=
  h.2 N' fo' sa' on' tw' td' nu' (fun r hw hc hr => by obtain ⟨r', _, _, hf⟩ := hF.2 r hw hc hr; exact hn r' (hG r' hf))
section ru
variable {N : Nat} {C : (Nat → mt_T) → Prop} {t a b d w P : Nat} {own : Bool} {Lc : List Nat} {c : Nat → Nat}
/-- C doesn't see nodes from N on -/
def lo_ok (N : Nat) (C : (Nat → mt_T) → Prop) : Prop := ∀ r r' : Nat → mt_T, (∀ n, n < N → r' n = r n) → C r → C r'
theorem f_leaf0 (hl : lo_ok N C) (ht : t < N) : ys_ok N C (fun r => (C r ∧ ((0 : Int32) = 10 ∨ r N = gr_at (fun _ => 0) (fun _ => 0) (fun _ => 0) r 0)) ∧ r t = r N) (ru_k 0 t c w own P Lc) := by
  refine ⟨fun r hw h => ⟨h.1.1, ?_⟩, fun r hw hc hr => ⟨gr_put r N (.leaf 0), pt_wf hw mt_wf0, fun n hn => gr_put_ne (by omega), ⟨hl r _ (fun n hn => gr_put_ne (by omega)) hc, d0_e.mpr gr_put_eq⟩, ?_⟩⟩
  · show r t = _; rw [h.2]; exact d0_e.mp h.1.2
  · rw [gr_put_eq, gr_put_ne (by omega)]; exact hr
theorem f_leaf1 (hl : lo_ok N C) (ht : t < N) (k : Nat) (hk : k = 1 ∨ k = 2) : ys_ok N C (fun r => (C r ∧ ((1 : Int32) = 10 ∨ r N = gr_at (fun _ => 1) (fun _ => 0) (fun _ => 0) r 0)) ∧ r t = r N) (ru_k k t c w own P Lc) := by
  refine ⟨fun r hw h => ⟨h.1.1, ?_⟩, fun r hw hc hr => ⟨gr_put r N (.leaf 1), pt_wf hw mt_wf1, fun n hn => gr_put_ne (by omega), ⟨hl r _ (fun n hn => gr_put_ne (by omega)) hc, d1_e.mpr gr_put_eq⟩, ?_⟩⟩
  · rcases hk with rfl | rfl <;> (show r t = _; rw [h.2]; exact d1_e.mp h.1.2)
  · rw [gr_put_eq, gr_put_ne (by omega)]; rcases hk with rfl | rfl <;> exact hr
theorem f_var : ys_ok N C (fun r => C r ∧ r t = r w) (ru_k 3 t c w own P Lc) :=
  ⟨fun r hw h => h, fun r hw hc hr => ⟨r, hw, fun _ _ => rfl, hc, hr⟩⟩
theorem f_pair (hl : lo_ok N C) (ht : t < N) (ha : a < N) (hb : b < N) (h0 : c 0 = a) (h1 : c 1 = b) : ys_ok N C (fun r => (C r ∧ ((2 : Int32) = 10 ∨ r N = gr_at (fun _ => 2) (fun _ => a) (fun _ => b) r 0)) ∧ r t = r N) (ru_k 5 t c w own P Lc) := by
  refine ⟨fun r hw h => ⟨h.1.1, ?_⟩, fun r hw hc hr => ⟨gr_put r N (.branch 2 (r a) (r b)), pt_wf hw (sw2 (hw _) (hw _)), fun n hn => gr_put_ne (by omega), ⟨hl r _ (fun n hn => gr_put_ne (by omega)) hc, d2_e.mpr ?_⟩, ?_⟩⟩
  · show r t = .branch 2 (r (c 0)) (r (c 1)); rw [h0, h1, h.2]; exact d2_e.mp h.1.2
  · rw [gr_put_eq, gr_put_ne (by omega), gr_put_ne (by omega)]
  · rw [gr_put_eq, gr_put_ne (by omega), ← h0, ← h1]; exact hr
theorem f_lam (hl : lo_ok N C) (ht : t < N) (ha : a < N) (h2t : 24 + 2 * t < N) (h0 : c 0 = a) : ys_ok N C (fun r => (C r ∧ ((4 : Int32) = 10 ∨ r N = gr_at (fun _ => 4) (fun _ => 24 + 2 * t) (fun _ => a) r 0)) ∧ r t = r N) (ru_k 15 t c w own P Lc) := by
  refine ⟨fun r hw h => ⟨h.1.1, ?_⟩, fun r hw hc hr => ⟨gr_put r N (.branch 4 (r (24 + 2 * t)) (r a)), pt_wf hw (sw4 (hw _) (hw _)), fun n hn => gr_put_ne (by omega), ⟨hl r _ (fun n hn => gr_put_ne (by omega)) hc, d4_e.mpr ?_⟩, ?_⟩⟩
  · show r t = .branch 4 (r (24 + 2 * t)) (r (c 0)); rw [h0, h.2]; exact d4_e.mp h.1.2
  · rw [gr_put_eq, gr_put_ne (by omega), gr_put_ne (by omega)]
  · rw [gr_put_eq, gr_put_ne (by omega), ← h0]; exact hr
theorem f_app (hl : lo_ok N C) (ht : t < N) (ha : a < N) (hb : b < N) (h0 : c 0 = a) (h1 : c 1 = b) : ys_ok N C (fun r => (C r ∧ ((4 : Int32) = 10 ∨ r N = gr_at (fun _ => 4) (fun _ => b) (fun _ => t) r 0)) ∧ r a = r N) (ru_k 16 t c w own P Lc) := by
  refine ⟨fun r hw h => ⟨h.1.1, ?_⟩, fun r hw hc hr => ⟨gr_put r N (.branch 4 (r b) (r t)), pt_wf hw (sw4 (hw _) (hw _)), fun n hn => gr_put_ne (by omega), ⟨hl r _ (fun n hn => gr_put_ne (by omega)) hc, d4_e.mpr ?_⟩, ?_⟩⟩
  · show r (c 0) = .branch 4 (r (c 1)) (r t); rw [h0, h1, h.2]; exact d4_e.mp h.1.2
  · rw [gr_put_eq, gr_put_ne (by omega), gr_put_ne (by omega)]
  · rw [gr_put_eq, gr_put_ne (by omega), ← h0, ← h1]; exact hr
theorem f_fst (hl : lo_ok N C) (ht : t < N) (ha : a < N) (h0 : c 0 = a) : ys_ok N C (fun r => ((C r ∧ ((10 : Int32) = 10 ∨ r N = gr_at (fun _ => 10) (fun _ => 0) (fun _ => 0) r 0)) ∧ ((2 : Int32) = 10 ∨ r (N + 1) = gr_at (fun _ => 2) (fun _ => t) (fun _ => N) r 0)) ∧ r a = r (N + 1)) (ru_k 6 t c w own P Lc) := by
  refine ⟨fun r hw h => ⟨h.1.1.1, r N, hw N, ?_⟩, fun r hw hc hr => ?_⟩
  · rw [h0, h.2]; exact d2_e.mp h.1.2
  · obtain ⟨x, hx, e⟩ := hr
    refine ⟨gr_put (gr_put r N x) (N + 1) (.branch 2 (r t) x), pt_wf (pt_wf hw hx) (sw2 (hw _) hx), fun n hn => by rw [gr_put_ne (by omega), gr_put_ne (by omega)], ⟨⟨hl r _ (fun n hn => by rw [gr_put_ne (by omega), gr_put_ne (by omega)]) hc, Or.inl rfl⟩, d2_e.mpr ?_⟩, ?_⟩
    · rw [gr_put_eq, gr_put_ne (by omega), gr_put_ne (by omega), gr_put_ne (by omega), gr_put_eq]
    · rw [gr_put_eq, gr_put_ne (by omega), gr_put_ne (by omega), ← h0]; exact e
theorem f_snd (hl : lo_ok N C) (ht : t < N) (ha : a < N) (h0 : c 0 = a) : ys_ok N C (fun r => ((C r ∧ ((10 : Int32) = 10 ∨ r N = gr_at (fun _ => 10) (fun _ => 0) (fun _ => 0) r 0)) ∧ ((2 : Int32) = 10 ∨ r (N + 1) = gr_at (fun _ => 2) (fun _ => N) (fun _ => t) r 0)) ∧ r a = r (N + 1)) (ru_k 7 t c w own P Lc) := by
  refine ⟨fun r hw h => ⟨h.1.1.1, r N, hw N, ?_⟩, fun r hw hc hr => ?_⟩
  · rw [h0, h.2]; exact d2_e.mp h.1.2
  · obtain ⟨x, hx, e⟩ := hr
    refine ⟨gr_put (gr_put r N x) (N + 1) (.branch 2 x (r t)), pt_wf (pt_wf hw hx) (sw2 hx (hw _)), fun n hn => by rw [gr_put_ne (by omega), gr_put_ne (by omega)], ⟨⟨hl r _ (fun n hn => by rw [gr_put_ne (by omega), gr_put_ne (by omega)]) hc, Or.inl rfl⟩, d2_e.mpr ?_⟩, ?_⟩
    · rw [gr_put_eq, gr_put_ne (j := N) (by omega), gr_put_eq, gr_put_ne (by omega), gr_put_ne (by omega)]
    · rw [gr_put_eq, gr_put_ne (by omega), gr_put_ne (by omega), ← h0]; exact e
theorem f_nil (hl : lo_ok N C) (ht : t < N) : ys_ok N C (fun r => ((C r ∧ ((10 : Int32) = 10 ∨ r N = gr_at (fun _ => 10) (fun _ => 0) (fun _ => 0) r 0)) ∧ ((3 : Int32) = 10 ∨ r (N + 1) = gr_at (fun _ => 3) (fun _ => N) (fun _ => 0) r 0)) ∧ r t = r (N + 1)) (ru_k 8 t c w own P Lc) := by
  refine ⟨fun r hw h => ⟨h.1.1.1, r N, hw N, ?_⟩, fun r hw hc hr => ?_⟩
  · rw [h.2]; exact d3_e.mp h.1.2
  · obtain ⟨x, hx, e⟩ := hr
    refine ⟨gr_put (gr_put r N x) (N + 1) (.branch 3 x (.leaf 0)), pt_wf (pt_wf hw hx) (sw3 hx), fun n hn => by rw [gr_put_ne (by omega), gr_put_ne (by omega)], ⟨⟨hl r _ (fun n hn => by rw [gr_put_ne (by omega), gr_put_ne (by omega)]) hc, Or.inl rfl⟩, d3_e.mpr ?_⟩, ?_⟩
    · rw [gr_put_eq, gr_put_ne (by omega), gr_put_eq]
    · rw [gr_put_eq, gr_put_ne (by omega), gr_put_ne (by omega)]; exact e
theorem f_cons (hl : lo_ok N C) (ht : t < N) (ha : a < N) (hb : b < N) (h0 : c 0 = a) (h1 : c 1 = b) : ys_ok N C (fun r => ((C r ∧ ((3 : Int32) = 10 ∨ r N = gr_at (fun _ => 3) (fun _ => a) (fun _ => 0) r 0)) ∧ r b = r N) ∧ r t = r b) (ru_k 9 t c w own P Lc) := by
  refine ⟨fun r hw h => ⟨h.1.1.1, ?_, ?_⟩, fun r hw hc hr => ?_⟩
  · rw [h0, h1, h.1.2]; exact d3_e.mp h.1.1.2
  · rw [h1]; exact h.2
  · obtain ⟨e1, e2⟩ := hr
    rw [h0, h1] at e1
    rw [h1] at e2
    refine ⟨gr_put r N (.branch 3 (r a) (.leaf 0)), pt_wf hw (sw3 (hw _)), fun n hn => gr_put_ne (by omega), ⟨⟨hl r _ (fun n hn => gr_put_ne (by omega)) hc, d3_e.mpr ?_⟩, ?_⟩, ?_⟩
    · rw [gr_put_eq, gr_put_ne (by omega)]
    · rw [gr_put_eq, gr_put_ne (by omega)]; exact e1
    · rw [gr_put_ne (by omega), gr_put_ne (by omega)]; exact e2
theorem f_let (h0 : c 0 = a) (h1 : c 1 = b) : ys_ok N C (fun r => (C r ∧ r (24 + 2 * t) = r a) ∧ r t = r b) (ru_k 14 t c w own P Lc) := by
  refine ⟨fun r hw h => ⟨h.1.1, by rw [h0]; exact h.1.2, by rw [h1]; exact h.2⟩, fun r hw hc hr => ⟨r, hw, fun _ _ => rfl, ⟨hc, ?_⟩, ?_⟩⟩
  · have := hr.1; rw [h0] at this; exact this
  · have := hr.2; rw [h1] at this; exact this
theorem f_if (hl : lo_ok N C) (ht : t < N) (ha : a < N) (hb : b < N) (hd : d < N) (h0 : c 0 = a) (h1 : c 1 = b) (h2 : c 2 = d) : ys_ok N C (fun r => (((C r ∧ ((1 : Int32) = 10 ∨ r N = gr_at (fun _ => 1) (fun _ => 0) (fun _ => 0) r 0)) ∧ r a = r N) ∧ r b = r t) ∧ r d = r t) (ru_k 11 t c w own P Lc) := by
  refine ⟨fun r hw h => ⟨h.1.1.1.1, ?_, ?_, ?_⟩, fun r hw hc hr => ?_⟩
  · rw [h0, h.1.1.2]; exact d1_e.mp h.1.1.1.2
  · rw [h1]; exact h.1.2
  · rw [h2]; exact h.2
  · obtain ⟨e1, e2, e3⟩ := hr
    rw [h0] at e1
    rw [h1] at e2
    rw [h2] at e3
    refine ⟨gr_put r N (.leaf 1), pt_wf hw mt_wf1, fun n hn => gr_put_ne (by omega), ⟨⟨⟨hl r _ (fun n hn => gr_put_ne (by omega)) hc, d1_e.mpr gr_put_eq⟩, ?_⟩, ?_⟩, ?_⟩
    · rw [gr_put_eq, gr_put_ne (by omega)]; exact e1
    · rw [gr_put_ne (by omega), gr_put_ne (by omega)]; exact e2
    · rw [gr_put_ne (by omega), gr_put_ne (by omega)]; exact e3
theorem f_case (hl : lo_ok N C) (ht : t < N) (h25 : 25 + 2 * t < N) (ha : a < N) (hb : b < N) (hd : d < N) (h0 : c 0 = a) (h1 : c 1 = b) (h2 : c 2 = d) :
    ys_ok N C (fun r => ((((C r ∧ ((3 : Int32) = 10 ∨ r N = gr_at (fun _ => 3) (fun _ => 24 + 2 * t) (fun _ => 0) r 0)) ∧ r a = r N) ∧ r (25 + 2 * t) = r a) ∧ r b = r t) ∧ r d = r t) (ru_k 10 t c w own P Lc) := by
  refine ⟨fun r hw h => ⟨h.1.1.1.1.1, ?_, ?_, ?_, ?_⟩, fun r hw hc hr => ?_⟩
  · rw [h0, h.1.1.1.2]; exact d3_e.mp h.1.1.1.1.2
  · rw [h0]; exact h.1.1.2
  · rw [h1]; exact h.1.2
  · rw [h2]; exact h.2
  · obtain ⟨e1, e2, e3, e4⟩ := hr
    rw [h0] at e1 e2
    rw [h1] at e3
    rw [h2] at e4
    refine ⟨gr_put r N (.branch 3 (r (24 + 2 * t)) (.leaf 0)), pt_wf hw (sw3 (hw _)), fun n hn => gr_put_ne (by omega), ⟨⟨⟨⟨hl r _ (fun n hn => gr_put_ne (by omega)) hc, d3_e.mpr ?_⟩, ?_⟩, ?_⟩, ?_⟩, ?_⟩
    · rw [gr_put_eq, gr_put_ne (by omega)]
    · rw [gr_put_eq, gr_put_ne (by omega)]; exact e1
    · rw [gr_put_ne (by omega), gr_put_ne (by omega)]; exact e2
    · rw [gr_put_ne (by omega), gr_put_ne (by omega)]; exact e3
    · rw [gr_put_ne (by omega), gr_put_ne (by omega)]; exact e4
end ru

variable {yf_place yf_points yf_names yf_textEnd yf_made yf_entry yf_waiting yf_values yf_bound yf_cells yf_conses yf_lams yf_steps yf_atWork yf_end yf_writtenCount : Int32} {ya_kind ya_up ya_turn ya_depth ya_value ya_below ya_length ya_parameters ya_codes ya_codeCount ya_form ya_colour ya_same ya_one ya_two ya_todo ya_numbered ya_text ya_ofFunction ya_codeEnd ya_instance ya_token ya_env ya_tag ya_cellEnv ya_boundNext ya_step ya_boundNumber ya_boundTag ya_headTag ya_tailTag ya_number ya_boundValue ya_head ya_tail ya_written : Nat → Int32}
theorem cc_le {K : Nat → Int32} (h : ∀ n, n < 74 → K n = 10 ∨ K n = 5) : ∀ m, cc K (74 + m) ≤ m := by
  intro m
  induction m with
  | zero =>
    have : sm (fun j => if K j = 10 ∨ K j = 5 then 0 else 1) 74 = sm (fun _ => 0) 74 := sm_same 74 (fun j hj => by simp only [if_pos (h j hj)])
    have h2 := sm_le (g := fun _ => 0) (b := 0) 74 (fun j _ => Nat.le_refl 0)
    unfold cc; rw [Nat.add_zero, this]; omega
  | succ m ih =>
    have : cc K (74 + (m + 1)) = cc K (74 + m) + (if K (74 + m) = 10 ∨ K (74 + m) = 5 then 0 else 1) := rfl
    rw [this]; split <;> omega
theorem y_joinN {post : Int32 → SY → Prop} {N a b : Nat} {K : Nat → Int32} {L R rt ds : Nat → Nat} {S0 : (Nat → mt_T) → Prop} (h74 : 74 ≤ N) (hN : N ≤ 800) (ha : a < N) (hb : b < N)
    (hg : yg_ok N ya_form ya_same ya_one ya_two K L R rt ds) (hS : ∀ r, S0 r ↔ gr_sat N K L R r ∧ r a = r b)
    (hP1 : ∀ sa' td' K' L' rt' ds', yg_ok N ya_form sa' ya_one ya_two K' L' R rt' ds' → (∀ r, S0 r ↔ gr_sat N K' L' R r) → post 1 (yf_place, yf_points, yf_names, yf_textEnd, yf_made, yf_entry, yf_waiting, yf_values, yf_bound, yf_cells, yf_conses, yf_lams, yf_steps, yf_atWork, yf_end, yf_writtenCount, ya_kind, ya_up, ya_turn, ya_depth, ya_value, ya_below, ya_length, ya_parameters, ya_codes, ya_codeCount, ya_form, ya_colour, sa', ya_one, ya_two, td', ya_numbered, ya_text, ya_ofFunction, ya_codeEnd, ya_instance, ya_token, ya_env, ya_tag, ya_cellEnv, ya_boundNext, ya_step, ya_boundNumber, ya_boundTag, ya_headTag, ya_tailTag, ya_number, ya_boundValue, ya_head, ya_tail, ya_written))
    (hP0 : ∀ sa' td', (∀ r, ¬ S0 r) → post 0 (yf_place, yf_points, yf_names, yf_textEnd, yf_made, yf_entry, yf_waiting, yf_values, yf_bound, yf_cells, yf_conses, yf_lams, yf_steps, yf_atWork, yf_end, yf_writtenCount, ya_kind, ya_up, ya_turn, ya_depth, ya_value, ya_below, ya_length, ya_parameters, ya_codes, ya_codeCount, ya_form, ya_colour, sa', ya_one, ya_two, td', ya_numbered, ya_text, ya_ofFunction, ya_codeEnd, ya_instance, ya_token, ya_env, ya_tag, ya_cellEnv, ya_boundNext, ya_step, ya_boundNumber, ya_boundTag, ya_headTag, ya_tailTag, ya_number, ya_boundValue, ya_head, ya_tail, ya_written)) : wpY_join post (yf_place, yf_points, yf_names, yf_textEnd, yf_made, yf_entry, yf_waiting, yf_values, yf_bound, yf_cells, yf_conses, yf_lams, yf_steps, yf_atWork, yf_end, yf_writtenCount, ya_kind, ya_up, ya_turn, ya_depth, ya_value, ya_below, ya_length, ya_parameters, ya_codes, ya_codeCount, ya_form, ya_colour, ya_same, ya_one, ya_two, ya_todo, ya_numbered, ya_text, ya_ofFunction, ya_codeEnd, ya_instance, ya_token, ya_env, ya_tag, ya_cellEnv, ya_boundNext, ya_step, ya_boundNumber, ya_boundTag, ya_headTag, ya_tailTag, ya_number, ya_boundValue, ya_head, ya_tail, ya_written) (nI a) (nI b) := by
  have h := cc_le (K := K) (fun n hn => (hg.1 n (by omega)).2.2.2.2.2.2.2 hn) (N - 74)
  have e : 74 + (N - 74) = N := by omega
  rw [e] at h
  exact y_join hN (by omega) ha hb hg hS hP1 hP0
/-- a code as Y's form has it: a variable is -1 -/
def yf (c : Int32) : Int32 := if c = 10 then -1 else c
theorem y_point {post : Int32 → SY → Prop} {N a b : Nat} {c p0 : Int32} (hN : N < 900) (hc : gr_kd c) (h5 : c ≠ 5) (hp0 : p0 = yf c) (ha : a < 900) (hb : b < 900)
    (hp : post (nI N) (yf_place, (nI (N + 1)), yf_names, yf_textEnd, yf_made, yf_entry, yf_waiting, yf_values, yf_bound, yf_cells, yf_conses, yf_lams, yf_steps, yf_atWork, yf_end, yf_writtenCount, ya_kind, ya_up, ya_turn, ya_depth, ya_value, ya_below, ya_length, ya_parameters, ya_codes, ya_codeCount, (upd ya_form N (yf c)), ya_colour, (upd ya_same N (nI N)), (upd ya_one N (nI a)), (upd ya_two N (nI b)), ya_todo, ya_numbered, ya_text, ya_ofFunction, ya_codeEnd, ya_instance, ya_token, ya_env, ya_tag, ya_cellEnv, ya_boundNext, ya_step, ya_boundNumber, ya_boundTag, ya_headTag, ya_tailTag, ya_number, ya_boundValue, ya_head, ya_tail, ya_written)) :
    wpY_point post (yf_place, (nI N), yf_names, yf_textEnd, yf_made, yf_entry, yf_waiting, yf_values, yf_bound, yf_cells, yf_conses, yf_lams, yf_steps, yf_atWork, yf_end, yf_writtenCount, ya_kind, ya_up, ya_turn, ya_depth, ya_value, ya_below, ya_length, ya_parameters, ya_codes, ya_codeCount, ya_form, ya_colour, ya_same, ya_one, ya_two, ya_todo, ya_numbered, ya_text, ya_ofFunction, ya_codeEnd, ya_instance, ya_token, ya_env, ya_tag, ya_cellEnv, ya_boundNext, ya_step, ya_boundNumber, ya_boundTag, ya_headTag, ya_tailTag, ya_number, ya_boundValue, ya_head, ya_tail, ya_written) p0 (nI a) (nI b) := by
  have cN : (nI N).toNatClampNeg = N := nI_clamp (by omega)
  have hf : vp_nar .byte (p0.toInt8.toInt32) = yf c := by
    subst hp0
    unfold yf
    rcases hc with z | z | z | z | z | z | z
    · rw [z]; exact nr_b (n := 0) (by omega)
    · rw [z]; exact nr_b (n := 1) (by omega)
    · rw [z]; exact nr_b (n := 2) (by omega)
    · rw [z]; exact nr_b (n := 3) (by omega)
    · rw [z]; exact nr_b (n := 4) (by omega)
    · exact absurd z h5
    · rw [z]; exact nr_bm'
  exact And.intro (pk_in N 900 hN) (nm_r (e' := upd ya_form N (yf c)) (by rw [cN, hf]) (And.intro (pk_in N 900 hN) (nm_r (e' := upd ya_same N (nI N)) (by rw [cN, nr_s (by omega)]) (And.intro (pk_in N 900 hN) (nm_r (e' := upd ya_one N (nI a)) (by rw [cN, nr_s (by omega)]) (And.intro (pk_in N 900 hN) (nm_r (e' := upd ya_two N (nI b)) (by rw [cN, nr_s (by omega)]) (nm_r (nI_1 N) hp))))))))
theorem yg_new {N : Nat} {fo sa on tw : Nat → Int32} {K : Nat → Int32} {L R rt ds : Nat → Nat} (hg : yg_ok N fo sa on tw K L R rt ds) (h74 : 74 ≤ N) (c : Int32) (a b : Nat) (hc : gr_kd c) (h5 : c ≠ 5) (hl : gr_lf c → a < N + 1) (hr : gr_rg c → b < N + 1) :
    ∃ rt' ds', yg_ok (N + 1) (upd fo N (yf c)) (upd sa N (nI N)) (upd on N (nI a)) (upd tw N (nI b)) (upd K N c) (updN L N a) (updN R N b) rt' ds' ∧
      (∀ r, gr_sat (N + 1) (upd K N c) (updN L N a) (updN R N b) r ↔ gr_sat N K L R r ∧ (c = 10 ∨ r N = gr_at (fun _ => c) (fun _ => a) (fun _ => b) r 0)) := by
  have kN : ∀ n, n < N → upd K N c n = K n := fun n hn => pk_un (by omega)
  have lN' : ∀ n, n < N → updN L N a n = L n := fun n hn => uN_n (by omega)
  have rN' : ∀ n, n < N → updN R N b n = R n := fun n hn => uN_n (by omega)
  refine ⟨fun n => if n < N then rt n else n, fun n => if n < N then ds n else 0, ⟨fun n hn => ?_, ?_⟩, fun r => ?_⟩
  · by_cases z : n = N
    · subst z
      rw [pk_us, pk_us, pk_us, pk_us, pk_us, uN_s, uN_s]
      exact ⟨hc, fun q => absurd q h5, fun _ => rfl, fun q => by rw [q]; rfl, fun _ q => by unfold yf; rw [if_neg q], fun q => ⟨rfl, hl q⟩, fun q => ⟨rfl, hr q⟩, fun q => by omega⟩
    · have hn' : n < N := by omega
      rw [pk_un z, pk_un z, pk_un z, pk_un z, pk_un z, uN_n z, uN_n z]
      obtain ⟨a1, a2, a3, a4, a5, a6, a7, a8⟩ := hg.1 n hn'
      exact ⟨a1, a2, a3, a4, a5, fun q => ⟨(a6 q).1, by have := (a6 q).2; omega⟩, fun q => ⟨(a7 q).1, by have := (a7 q).2; omega⟩, a8⟩
  · rw [lk_new kN (by rw [pk_us]; exact h5)]
    exact fo_new hg.2 kN lN' (by rw [pk_us]; exact h5)
  · rw [gr_sat_ext (N := N) (K := K) (L := L) (R := R) (by omega) kN (fun n hn _ => lN' n hn) (fun n hn _ => rN' n hn)]
    refine and_congr_right (fun _ => ?_)
    have e : gr_at (upd K N c) (updN L N a) (updN R N b) r N = if c = 10 then r N else gr_at (fun _ => c) (fun _ => a) (fun _ => b) r 0 := by
      by_cases z : c = 10
      · rw [if_pos z, gr_at_v (by rw [pk_us]; exact z)]
      · rw [if_neg z]
        rcases kd_cn hc h5 z with q | q | q | q | q
        · rw [gr_at_0 (by rw [pk_us]; exact q), gr_at_0 (K := fun _ => c) q]
        · rw [gr_at_1 (by rw [pk_us]; exact q), gr_at_1 (K := fun _ => c) q]
        · rw [gr_at_2 (by rw [pk_us]; exact q), gr_at_2 (K := fun _ => c) q, uN_s, uN_s]
        · rw [gr_at_3 (by rw [pk_us]; exact q), gr_at_3 (K := fun _ => c) q, uN_s]
        · rw [gr_at_4 (by rw [pk_us]; exact q), gr_at_4 (K := fun _ => c) q, uN_s, uN_s]
    constructor
    · intro h
      have h1 := h N (Nat.le_refl _) (by omega)
      rw [e] at h1
      by_cases z : c = 10
      · exact Or.inl z
      · rw [if_neg z] at h1; exact Or.inr h1
    · intro h n h1 h2
      have : n = N := by omega
      subst this
      rw [e]
      by_cases z : c = 10
      · rw [if_pos z]
      · rw [if_neg z]; exact h.elim (fun q => absurd q z) id
/-- Y's state of points: N of them, their solutions C -/
def yc_ok (N : Nat) (fo sa on tw : Nat → Int32) (C : (Nat → mt_T) → Prop) : Prop := ∃ (K : Nat → Int32) (L R rt ds : Nat → Nat), yg_ok N fo sa on tw K L R rt ds ∧ ∀ r, gr_sat N K L R r ↔ C r
theorem y_joinC {post : Int32 → SY → Prop} {N a b : Nat} {C : (Nat → mt_T) → Prop} (h74 : 74 ≤ N) (hN : N ≤ 800) (ha : a < N) (hb : b < N) (hg : yc_ok N ya_form ya_same ya_one ya_two C)
    (hP1 : ∀ sa' td', yc_ok N ya_form sa' ya_one ya_two (fun r => C r ∧ r a = r b) → post 1 (yf_place, yf_points, yf_names, yf_textEnd, yf_made, yf_entry, yf_waiting, yf_values, yf_bound, yf_cells, yf_conses, yf_lams, yf_steps, yf_atWork, yf_end, yf_writtenCount, ya_kind, ya_up, ya_turn, ya_depth, ya_value, ya_below, ya_length, ya_parameters, ya_codes, ya_codeCount, ya_form, ya_colour, sa', ya_one, ya_two, td', ya_numbered, ya_text, ya_ofFunction, ya_codeEnd, ya_instance, ya_token, ya_env, ya_tag, ya_cellEnv, ya_boundNext, ya_step, ya_boundNumber, ya_boundTag, ya_headTag, ya_tailTag, ya_number, ya_boundValue, ya_head, ya_tail, ya_written))
    (hP0 : ∀ sa' td', (∀ r, ¬ (C r ∧ r a = r b)) → post 0 (yf_place, yf_points, yf_names, yf_textEnd, yf_made, yf_entry, yf_waiting, yf_values, yf_bound, yf_cells, yf_conses, yf_lams, yf_steps, yf_atWork, yf_end, yf_writtenCount, ya_kind, ya_up, ya_turn, ya_depth, ya_value, ya_below, ya_length, ya_parameters, ya_codes, ya_codeCount, ya_form, ya_colour, sa', ya_one, ya_two, td', ya_numbered, ya_text, ya_ofFunction, ya_codeEnd, ya_instance, ya_token, ya_env, ya_tag, ya_cellEnv, ya_boundNext, ya_step, ya_boundNumber, ya_boundTag, ya_headTag, ya_tailTag, ya_number, ya_boundValue, ya_head, ya_tail, ya_written)) : wpY_join post (yf_place, yf_points, yf_names, yf_textEnd, yf_made, yf_entry, yf_waiting, yf_values, yf_bound, yf_cells, yf_conses, yf_lams, yf_steps, yf_atWork, yf_end, yf_writtenCount, ya_kind, ya_up, ya_turn, ya_depth, ya_value, ya_below, ya_length, ya_parameters, ya_codes, ya_codeCount, ya_form, ya_colour, ya_same, ya_one, ya_two, ya_todo, ya_numbered, ya_text, ya_ofFunction, ya_codeEnd, ya_instance, ya_token, ya_env, ya_tag, ya_cellEnv, ya_boundNext, ya_step, ya_boundNumber, ya_boundTag, ya_headTag, ya_tailTag, ya_number, ya_boundValue, ya_head, ya_tail, ya_written) (nI a) (nI b) := by
  obtain ⟨K, L, R, rt, ds, g, hs⟩ := hg
  refine y_joinN (S0 := fun r => C r ∧ r a = r b) h74 hN ha hb g (fun r => by rw [hs r]) (fun sa' td' K' L' rt' ds' g' hs' => hP1 sa' td' ⟨K', L', R, rt', ds', g', fun r => (hs' r).symm⟩) hP0
theorem y_pointC {post : Int32 → SY → Prop} {N a b : Nat} {c p0 : Int32} {C : (Nat → mt_T) → Prop} (h74 : 74 ≤ N) (hN : N < 800) (hc : gr_kd c) (h5 : c ≠ 5) (hp0 : p0 = yf c) (ha : a < N) (hb : b < N) (hg : yc_ok N ya_form ya_same ya_one ya_two C)
    (hp : ∀ fo' sa' on' tw', yc_ok (N + 1) fo' sa' on' tw' (fun r => C r ∧ (c = 10 ∨ r N = gr_at (fun _ => c) (fun _ => a) (fun _ => b) r 0)) → post (nI N) (yf_place, (nI (N + 1)), yf_names, yf_textEnd, yf_made, yf_entry, yf_waiting, yf_values, yf_bound, yf_cells, yf_conses, yf_lams, yf_steps, yf_atWork, yf_end, yf_writtenCount, ya_kind, ya_up, ya_turn, ya_depth, ya_value, ya_below, ya_length, ya_parameters, ya_codes, ya_codeCount, fo', ya_colour, sa', on', tw', ya_todo, ya_numbered, ya_text, ya_ofFunction, ya_codeEnd, ya_instance, ya_token, ya_env, ya_tag, ya_cellEnv, ya_boundNext, ya_step, ya_boundNumber, ya_boundTag, ya_headTag, ya_tailTag, ya_number, ya_boundValue, ya_head, ya_tail, ya_written)) :
    wpY_point post (yf_place, (nI N), yf_names, yf_textEnd, yf_made, yf_entry, yf_waiting, yf_values, yf_bound, yf_cells, yf_conses, yf_lams, yf_steps, yf_atWork, yf_end, yf_writtenCount, ya_kind, ya_up, ya_turn, ya_depth, ya_value, ya_below, ya_length, ya_parameters, ya_codes, ya_codeCount, ya_form, ya_colour, ya_same, ya_one, ya_two, ya_todo, ya_numbered, ya_text, ya_ofFunction, ya_codeEnd, ya_instance, ya_token, ya_env, ya_tag, ya_cellEnv, ya_boundNext, ya_step, ya_boundNumber, ya_boundTag, ya_headTag, ya_tailTag, ya_number, ya_boundValue, ya_head, ya_tail, ya_written) p0 (nI a) (nI b) := by
  obtain ⟨K, L, R, rt, ds, g, hs⟩ := hg
  obtain ⟨rt', ds', g', hs'⟩ := yg_new g h74 c a b hc h5 (fun _ => by omega) (fun _ => by omega)
  exact y_point (by omega) hc h5 hp0 (by omega) (by omega) (hp _ _ _ _ ⟨_, _, _, rt', ds', g', fun r => by rw [hs' r, hs r]⟩)
theorem bo_1 : narrow .boolean (.int (1 : Int32)) = .int 1 := rfl
theorem bo_0 : narrow .boolean (.int (0 : Int32)) = .int 0 := rfl
theorem y_is {post : Int32 → SY → Prop} {N p a b : Nat} {c p0 : Int32} {C : (Nat → mt_T) → Prop} (h74 : 74 ≤ N) (hN : N < 800) (hc : gr_kd c) (h5 : c ≠ 5) (hp0 : p0 = yf c) (hpN : p < N) (ha : a < N) (hb : b < N) (hg : yc_ok N ya_form ya_same ya_one ya_two C)
    (hP1 : ∀ fo' sa' on' tw' td', yc_ok (N + 1) fo' sa' on' tw' (fun r => (C r ∧ (c = 10 ∨ r N = gr_at (fun _ => c) (fun _ => a) (fun _ => b) r 0)) ∧ r p = r N) → post 1 (yf_place, (nI (N + 1)), yf_names, yf_textEnd, yf_made, yf_entry, yf_waiting, yf_values, yf_bound, yf_cells, yf_conses, yf_lams, yf_steps, yf_atWork, yf_end, yf_writtenCount, ya_kind, ya_up, ya_turn, ya_depth, ya_value, ya_below, ya_length, ya_parameters, ya_codes, ya_codeCount, fo', ya_colour, sa', on', tw', td', ya_numbered, ya_text, ya_ofFunction, ya_codeEnd, ya_instance, ya_token, ya_env, ya_tag, ya_cellEnv, ya_boundNext, ya_step, ya_boundNumber, ya_boundTag, ya_headTag, ya_tailTag, ya_number, ya_boundValue, ya_head, ya_tail, ya_written))
    (hP0 : ∀ fo' sa' on' tw' td', (∀ r, ¬ ((C r ∧ (c = 10 ∨ r N = gr_at (fun _ => c) (fun _ => a) (fun _ => b) r 0)) ∧ r p = r N)) → post 0 (yf_place, (nI (N + 1)), yf_names, yf_textEnd, yf_made, yf_entry, yf_waiting, yf_values, yf_bound, yf_cells, yf_conses, yf_lams, yf_steps, yf_atWork, yf_end, yf_writtenCount, ya_kind, ya_up, ya_turn, ya_depth, ya_value, ya_below, ya_length, ya_parameters, ya_codes, ya_codeCount, fo', ya_colour, sa', on', tw', td', ya_numbered, ya_text, ya_ofFunction, ya_codeEnd, ya_instance, ya_token, ya_env, ya_tag, ya_cellEnv, ya_boundNext, ya_step, ya_boundNumber, ya_boundTag, ya_headTag, ya_tailTag, ya_number, ya_boundValue, ya_head, ya_tail, ya_written)) :
    wpY_is post (yf_place, (nI N), yf_names, yf_textEnd, yf_made, yf_entry, yf_waiting, yf_values, yf_bound, yf_cells, yf_conses, yf_lams, yf_steps, yf_atWork, yf_end, yf_writtenCount, ya_kind, ya_up, ya_turn, ya_depth, ya_value, ya_below, ya_length, ya_parameters, ya_codes, ya_codeCount, ya_form, ya_colour, ya_same, ya_one, ya_two, ya_todo, ya_numbered, ya_text, ya_ofFunction, ya_codeEnd, ya_instance, ya_token, ya_env, ya_tag, ya_cellEnv, ya_boundNext, ya_step, ya_boundNumber, ya_boundTag, ya_headTag, ya_tailTag, ya_number, ya_boundValue, ya_head, ya_tail, ya_written) (nI p) p0 (nI a) (nI b) := by
  unfold wpY_is
  refine y_pointC h74 hN hc h5 hp0 ha hb hg (fun fo' sa' on' tw' g => ?_)
  refine y_joinC (by omega) (by omega) (by omega) (by omega) g (fun sa2 td2 g2 => And.intro bo_1 (hP1 _ _ _ _ _ g2)) (fun sa2 td2 g2 => And.intro bo_0 (hP0 _ _ _ _ _ g2))

variable {yf_place yf_points yf_names yf_textEnd yf_made yf_entry yf_waiting yf_values yf_bound yf_cells yf_conses yf_lams yf_steps yf_atWork yf_end yf_writtenCount : Int32} {ya_kind ya_up ya_turn ya_depth ya_value ya_below ya_length ya_parameters ya_codes ya_codeCount ya_form ya_colour ya_same ya_one ya_two ya_todo ya_numbered ya_text ya_ofFunction ya_codeEnd ya_instance ya_token ya_env ya_tag ya_cellEnv ya_boundNext ya_step ya_boundNumber ya_boundTag ya_headTag ya_tailTag ya_number ya_boundValue ya_head ya_tail ya_written : Nat → Int32}
def yo_ok (f P n : Nat) (kN : Nat → Nat) (vl : Nat → Int32) (oc : Nat → Nat) (len par : Nat → Int32) : Prop :=
  ∀ t, t < n → oc t ≤ 3 ∧ (kN t ≠ 4 → oc t = ar (kN t)) ∧ (kN t = 4 → ∀ g, vl t = nI g → g < 5 → (g = f → oc t = P) ∧ (g ≠ f → (len g = 0 ∧ oc t = 0 ∨ len g ≠ 0 ∧ par g = nI (oc t))))
theorem y_operands {post : Int32 → Prop} {f P n t : Nat} {kN : Nat → Nat} {vl : Nat → Int32} {oc : Nat → Nat} (hf : f < 5) (ht : t < n) (hx : yt_ok n ya_kind ya_value kN vl) (ho : yo_ok f P n kN vl oc ya_length ya_parameters) (hp : post (nI (oc t))) : wpY_operands post (yf_place, yf_points, yf_names, yf_textEnd, yf_made, yf_entry, yf_waiting, yf_values, yf_bound, yf_cells, yf_conses, yf_lams, yf_steps, yf_atWork, yf_end, yf_writtenCount, ya_kind, ya_up, ya_turn, ya_depth, ya_value, ya_below, ya_length, ya_parameters, ya_codes, ya_codeCount, ya_form, ya_colour, ya_same, ya_one, ya_two, ya_todo, ya_numbered, ya_text, ya_ofFunction, ya_codeEnd, ya_instance, ya_token, ya_env, ya_tag, ya_cellEnv, ya_boundNext, ya_step, ya_boundNumber, ya_boundTag, ya_headTag, ya_tailTag, ya_number, ya_boundValue, ya_head, ya_tail, ya_written) (nI (120 + t)) (nI f) (nI P) := by
  obtain ⟨n24, hx⟩ := hx
  obtain ⟨b1, b2, b3, b4, b5⟩ := hx t ht
  obtain ⟨o1, o2, o3⟩ := ho t ht
  have ca : (nI (120 + t)).toNatClampNeg = 120 + t := nI_clamp (by omega)
  have pin : vp_in (nI (120 + t)) 264 := pk_in (120 + t) 264 (by omega)
  refine And.intro pin (nm_r (e' := nI (kN t)) (by rw [ca]; exact b1) (pk_eq (kN t) 4 (fun z => And.intro pin ?_) (fun z => ?_)))
  · obtain ⟨g, g1, g2⟩ := b5 z
    obtain ⟨q1, q2⟩ := o3 z g g2 g1
    rw [ca, b3, g2]
    refine pk_eq g f (fun y => by rw [← q1 y]; exact hp) (fun y => And.intro pin (And.intro (pk_in g 11 (by omega)) ?_))
    rw [nI_clamp (n := g) (by omega)]
    rcases q2 y with ⟨l0, l1⟩ | ⟨l0, l1⟩
    · rw [l1] at hp; exact br_t l0 hp
    · refine br_f l0 (And.intro pin (And.intro (pk_in g 11 (by omega)) ?_))
      rw [l1]; exact hp
  · have e := o2 z
    rw [e] at hp
    rcases k17 b2 with y | y | y | y | y | y | y | y | y | y | y | y | y | y | y | y | y
    · rw [y] at hp ⊢; exact br_t (by decide) hp
    · rw [y] at hp ⊢; exact br_t (by decide) hp
    · rw [y] at hp ⊢; exact br_t (by decide) hp
    · rw [y] at hp ⊢; exact br_t (by decide) hp
    · exact absurd y z
    · rw [y] at hp ⊢; exact br_f (by decide) (br_f (by decide) (br_f (by decide) (br_f (by decide) (br_f (by decide) (br_f (by decide) (br_f (by decide) hp))))))
    · rw [y] at hp ⊢; exact br_f (by decide) (br_f (by decide) (br_t rfl hp))
    · rw [y] at hp ⊢; exact br_f (by decide) (br_f (by decide) (br_f (by decide) (br_t rfl hp)))
    · rw [y] at hp ⊢; exact br_f (by decide) (br_t rfl hp)
    · rw [y] at hp ⊢; exact br_f (by decide) (br_f (by decide) (br_f (by decide) (br_f (by decide) (br_f (by decide) (br_f (by decide) (br_f (by decide) hp))))))
    · rw [y] at hp ⊢; exact br_f (by decide) (br_f (by decide) (br_f (by decide) (br_f (by decide) (br_f (by decide) (br_t rfl hp)))))
    · rw [y] at hp ⊢; exact br_f (by decide) (br_f (by decide) (br_f (by decide) (br_f (by decide) (br_f (by decide) (br_f (by decide) (br_t rfl hp))))))
    · rw [y] at hp ⊢; exact br_f (by decide) (br_f (by decide) (br_f (by decide) (br_f (by decide) (br_f (by decide) (br_f (by decide) (br_f (by decide) hp))))))
    · rw [y] at hp ⊢; exact br_f (by decide) (br_f (by decide) (br_f (by decide) (br_f (by decide) (br_f (by decide) (br_f (by decide) (br_f (by decide) hp))))))
    · rw [y] at hp ⊢; exact br_f (by decide) (br_f (by decide) (br_f (by decide) (br_f (by decide) (br_f (by decide) (br_f (by decide) (br_f (by decide) hp))))))
    · rw [y] at hp ⊢; exact br_f (by decide) (br_f (by decide) (br_f (by decide) (br_f (by decide) (br_t rfl hp))))
    · rw [y] at hp ⊢; exact br_f (by decide) (br_f (by decide) (br_f (by decide) (br_f (by decide) (br_f (by decide) (br_f (by decide) (br_f (by decide) hp))))))
/-- the places at which the slots of a stack come, from place p on -/
def cp_ok (sp : Nat → Nat) : Nat → List Nat → Prop
  | _, [] => True
  | p, s :: st => jp sp (s / 3) (s % 3) = p ∧ cp_ok sp (p + sp p) st
/-- the slots of token i, the first on top -/
def sl_of (i : Nat) : Nat → List Nat → List Nat
  | 0, st => st
  | m + 1, st => sl_of i m ((3 * i + m) :: st)
theorem sl_cp {sp : Nat → Nat} {i : Nat} : ∀ m st, m ≤ 3 → cp_ok sp (jp sp i m) st → cp_ok sp (i + 1) (sl_of i m st) := by
  intro m
  induction m with
  | zero => intro st _ h; exact h
  | succ m ih =>
    intro st hm h
    refine ih _ (by omega) ⟨?_, h⟩
    have e1 : (3 * i + m) / 3 = i := by omega
    have e2 : (3 * i + m) % 3 = m := by omega
    rw [e1, e2]
theorem sl_mem {i : Nat} : ∀ m st s, s ∈ sl_of i m st → s ∈ st ∨ ∃ k, k < m ∧ s = 3 * i + k := by
  intro m
  induction m with
  | zero => intro st s h; exact Or.inl h
  | succ m ih =>
    intro st s h
    rcases ih _ s h with q | ⟨k, k1, k2⟩
    · simp only [List.mem_cons] at q
      rcases q with q | q
      · exact Or.inr ⟨m, by omega, q⟩
      · exact Or.inl q
    · exact Or.inr ⟨k, by omega, k2⟩
theorem y_sh180 {post : Int32 → SY → Prop} {J20 : Int32 → JY} {x1 x2 x3 : Int32} {i : Nat} (hi : i < 24) :
    ∀ k fu h td st, k ≤ 3 → k < fu → h + k ≤ 1400 → sk_ok 72 h td st → (∀ td', sk_ok 72 (h + k) td' (sl_of i k st) → J20 (nI (h + k)) (nI i + 1) ya_kind ya_up ya_turn ya_depth ya_value ya_below ya_length ya_parameters ya_codes ya_codeCount ya_form ya_colour ya_same ya_one ya_two td' ya_numbered ya_text ya_ofFunction ya_codeEnd ya_instance ya_token ya_env ya_tag ya_cellEnv ya_boundNext ya_step ya_boundNumber ya_boundTag ya_headTag ya_tailTag ya_number ya_boundValue ya_head ya_tail ya_written) →
      wY_shape_180 post J20 x1 x2 x3 (nI i) yf_place yf_points yf_names yf_textEnd yf_made yf_entry yf_waiting yf_values yf_bound yf_cells yf_conses yf_lams yf_steps yf_atWork yf_end yf_writtenCount fu (nI h) (nI k + (-1)) ya_kind ya_up ya_turn ya_depth ya_value ya_below ya_length ya_parameters ya_codes ya_codeCount ya_form ya_colour ya_same ya_one ya_two td ya_numbered ya_text ya_ofFunction ya_codeEnd ya_instance ya_token ya_env ya_tag ya_cellEnv ya_boundNext ya_step ya_boundNumber ya_boundTag ya_headTag ya_tailTag ya_number ya_boundValue ya_head ya_tail ya_written := by
  intro k
  induction k with
  | zero =>
    intro fu h td st _ hfu _ hs hJ
    obtain ⟨fu, rfl⟩ : ∃ g, fu = g + 1 := ⟨fu - 1, by omega⟩
    exact br_t (by decide) (nm_e (hJ td hs))
  | succ k ih =>
    intro fu h td st hk hfu hh hs hJ
    obtain ⟨fu, rfl⟩ : ∃ g, fu = g + 1 := ⟨fu - 1, by omega⟩
    rw [pk_m1 k]
    have e3 : (3 : Int32) * nI i + nI k = nI (3 * i + k) := by rw [← nI_add]; exact congrArg (· + nI k) (pk_mul 3 i)
    refine br_f (nI_pos (by omega)) (nm_r (nI_1 h) (And.intro (pk_in h 1500 (by omega)) (nm_r (e' := upd td h (nI (3 * i + k))) (by rw [nI_clamp (by omega), e3, nr_s (by omega)]) (nm_e ?_))))
    refine ih fu (h + 1) _ ((3 * i + k) :: st) (by omega) (by omega) (by omega) (sk_push hs (by omega)) (fun td' hs' => ?_)
    have e : h + 1 + k = h + (k + 1) := by omega
    rw [e] at hs' ⊢
    exact hJ td' hs'
/-- what Y's shape has written for the tokens below i -/
def yd_ok (G : Prop) (oc sp bd : Nat → Nat) (up tu de be : Nat → Int32) (i : Nat) : Prop := ∀ s, s < i → (G → de (120 + s) = nI (bd s)) ∧ (s = 0 → up (120 + s) = -1) ∧
  (0 < s → G → ∃ u j, u < s ∧ j < oc u ∧ s = jp sp u j ∧ up (120 + s) = nI u ∧ tu (120 + s) = nI j ∧ be (360 + 3 * u + j) = nI s)
/-- elsewhere nothing changes -/
def yr_ok (up tu de be up' tu' de' be' : Nat → Int32) : Prop := (∀ j, j < 120 ∨ 144 ≤ j → up' j = up j ∧ tu' j = tu j ∧ de' j = de j) ∧ ∀ j, j < 360 ∨ 432 ≤ j → be' j = be j
theorem y_sh20 {post : Int32 → SY → Prop} {f P n : Nat} {kN : Nat → Nat} {vl : Nat → Int32} {oc sp bd bi : Nat → Nat} {G : Prop} (hf : f < 5) (hP2 : P ≤ 2) (hx : yt_ok n ya_kind ya_value kN vl) (ho : yo_ok f P n kN vl oc ya_length ya_parameters)
    (hG : G → bw_is n oc sp ∧ tr_ok n kN oc sp bd bi ∧ (∀ s, s < n → bd s ≤ 100)) (hGi : (∀ s, s < n → aw oc s ≠ 0) → aw oc n = 0 → G)
    (h1 : ∀ t up tu de be td, t < n → aw oc t = 0 → (∀ s, s < t → aw oc s ≠ 0) → yr_ok ya_up ya_turn ya_depth ya_below up tu de be → post (nI t) (yf_place, yf_points, yf_names, yf_textEnd, yf_made, yf_entry, yf_waiting, yf_values, yf_bound, yf_cells, yf_conses, yf_lams, yf_steps, yf_atWork, yf_end, yf_writtenCount, ya_kind, up, tu, de, ya_value, be, ya_length, ya_parameters, ya_codes, ya_codeCount, ya_form, ya_colour, ya_same, ya_one, ya_two, td, ya_numbered, ya_text, ya_ofFunction, ya_codeEnd, ya_instance, ya_token, ya_env, ya_tag, ya_cellEnv, ya_boundNext, ya_step, ya_boundNumber, ya_boundTag, ya_headTag, ya_tailTag, ya_number, ya_boundValue, ya_head, ya_tail, ya_written))
    (h2 : ∀ up tu de be td, (∀ s, s < n → aw oc s ≠ 0) → aw oc n = 0 → G → yr_ok ya_up ya_turn ya_depth ya_below up tu de be → yd_ok G oc sp bd up tu de be n → post (-1) (yf_place, yf_points, yf_names, yf_textEnd, yf_made, yf_entry, yf_waiting, yf_values, yf_bound, yf_cells, yf_conses, yf_lams, yf_steps, yf_atWork, yf_end, yf_writtenCount, ya_kind, up, tu, de, ya_value, be, ya_length, ya_parameters, ya_codes, ya_codeCount, ya_form, ya_colour, ya_same, ya_one, ya_two, td, ya_numbered, ya_text, ya_ofFunction, ya_codeEnd, ya_instance, ya_token, ya_env, ya_tag, ya_cellEnv, ya_boundNext, ya_step, ya_boundNumber, ya_boundTag, ya_headTag, ya_tailTag, ya_number, ya_boundValue, ya_head, ya_tail, ya_written))
    (h3 : ∀ up tu de be td, (∀ s, s < n → aw oc s ≠ 0) → aw oc n ≠ 0 → yr_ok ya_up ya_turn ya_depth ya_below up tu de be → post (nI n) (yf_place, yf_points, yf_names, yf_textEnd, yf_made, yf_entry, yf_waiting, yf_values, yf_bound, yf_cells, yf_conses, yf_lams, yf_steps, yf_atWork, yf_end, yf_writtenCount, ya_kind, up, tu, de, ya_value, be, ya_length, ya_parameters, ya_codes, ya_codeCount, ya_form, ya_colour, ya_same, ya_one, ya_two, td, ya_numbered, ya_text, ya_ofFunction, ya_codeEnd, ya_instance, ya_token, ya_env, ya_tag, ya_cellEnv, ya_boundNext, ya_step, ya_boundNumber, ya_boundTag, ya_headTag, ya_tailTag, ya_number, ya_boundValue, ya_head, ya_tail, ya_written)) :
    ∀ q i fu up tu de be td st, i + q = n → 0 < i → q < fu → (∀ s, s < i → aw oc s ≠ 0) → sk_ok 72 (aw oc i) td st → (∀ s ∈ st, s / 3 < i ∧ s % 3 < oc (s / 3)) → (G → cp_ok sp i st) → yd_ok G oc sp bd up tu de be i → yr_ok ya_up ya_turn ya_depth ya_below up tu de be →
      wY_shape_20 post (nI f) (nI P) (nI n) yf_place yf_points yf_names yf_textEnd yf_made yf_entry yf_waiting yf_values yf_bound yf_cells yf_conses yf_lams yf_steps yf_atWork yf_end yf_writtenCount fu (nI (aw oc i)) (nI i) ya_kind up tu de ya_value be ya_length ya_parameters ya_codes ya_codeCount ya_form ya_colour ya_same ya_one ya_two td ya_numbered ya_text ya_ofFunction ya_codeEnd ya_instance ya_token ya_env ya_tag ya_cellEnv ya_boundNext ya_step ya_boundNumber ya_boundTag ya_headTag ya_tailTag ya_number ya_boundValue ya_head ya_tail ya_written := by
  have n24 := hx.1
  intro q
  induction q with
  | zero =>
    intro i fu up tu de be td st hi hi0 hfu haw hs hsl hcp hyd hyr
    obtain ⟨fu, rfl⟩ : ∃ g, fu = g + 1 := ⟨fu - 1, by omega⟩
    have e : i = n := by omega
    subst e
    have hb := aw_le (oc := oc) i (fun s hs => (ho s hs).1)
    exact br_t (nI_le (Nat.le_refl _) (by omega)) (pk_le (aw oc i) 0 (fun z => h2 up tu de be td haw (by omega) (hGi haw (by omega)) hyr hyd) (fun z => h3 up tu de be td haw (by omega) hyr))
  | succ q ih =>
    intro i fu up tu de be td st hi hi0 hfu haw hs hsl hcp hyd hyr
    obtain ⟨fu, rfl⟩ : ∃ g, fu = g + 1 := ⟨fu - 1, by omega⟩
    have hin : i < n := by omega
    have hb := aw_le (oc := oc) i (fun s hs => (ho s (by omega)).1)
    refine br_f (nI_ge (by omega) (by omega)) (pk_eq (aw oc i) 0 (fun z => h1 i up tu de be td hin z haw hyr) (fun z => ?_))
    obtain ⟨h, hh⟩ : ∃ h, aw oc i = h + 1 := ⟨aw oc i - 1, by omega⟩
    have haw1 := aw_s z
    cases st with
    | nil => have := hs.1; simp only [List.length_nil] at this; omega
    | cons s0 st =>
      rw [hh] at hs ⊢
      obtain ⟨p1, p2, p3⟩ := sk_pop hs
      obtain ⟨u1, u2⟩ := hsl s0 (by simp)
      obtain ⟨u, hu⟩ : ∃ u, s0 / 3 = u := ⟨_, rfl⟩
      obtain ⟨j, hj⟩ : ∃ j, s0 % 3 = j := ⟨_, rfl⟩
      rw [hu] at u1 u2
      rw [hj] at u2
      have es : s0 = 3 * u + j := by omega
      have hj3 := (ho u (by omega)).1
      refine nm_r (pk_m1 h) (And.intro (pk_in h 1500 (by omega)) (nm_r (e' := nI s0) (by rw [nI_clamp (by omega)]; exact p1) (br_t (nI_pos' (by omega)) (And.intro (by decide) ?_))))
      have ed : nI s0 / 3 = nI u := by rw [← hu]; exact pk_div (d := 3) (by omega) (by omega) (by omega)
      have er : nI s0 - nI s0 / 3 * 3 = nI j := by rw [← hj]; exact pk_rem (d := 3) (by omega) (by omega) (by omega)
      rw [ed]
      have ca : ((120 : Int32) + nI i).toNatClampNeg = 120 + i := by rw [ix_120]; exact nI_clamp (by omega)
      have pin : vp_in ((120 : Int32) + nI i) 264 := pk_in (120 + i) 264 (by omega) (ix_120 i)
      have cu : ((120 : Int32) + nI u).toNatClampNeg = 120 + u := by rw [ix_120]; exact nI_clamp (by omega)
      have e360 : (360 : Int32) + nI s0 = nI (360 + s0) := nI_add 360 s0
      refine And.intro pin (nm_r (e' := upd up (120 + i) (nI u)) (by rw [ca, nr_b (by omega)]) (br_t (nI_pos' (by omega)) (And.intro (by decide) ?_)))
      rw [er]
      refine And.intro pin (nm_r (e' := upd tu (120 + i) (nI j)) (by rw [ca, nr_b (by omega)]) (br_f (nI_pos (by omega)) (And.intro (pk_in (360 + s0) 792 (by omega) e360) (nm_r (e' := upd be (360 + s0) (nI i)) (by rw [e360, nI_clamp (by omega), nr_s (by omega)]) (br_t (nI_pos' (by omega)) (And.intro (pk_in (120 + u) 264 (by omega) (ix_120 u)) (And.intro (by decide) ?_)))))))
      obtain ⟨k1, k2, _, _, _⟩ := hx.2 u (by omega)
      rw [er, ix_120]
      refine y_binds (by omega) k1 k2 (by omega) (And.intro pin (nm_e ?_))
      rw [ca, nI_clamp (n := 120 + u) (by omega), ix_120]
      refine y_operands hf hin hx ho (nm_r (e' := nI (oc i) + (-1)) (Int32.sub_eq_add_neg _ _) (Exists.intro (oc i + 1) ?_))
      have hoi := (ho i hin).1
      refine y_sh180 (by omega) (oc i) (oc i + 1) h td st hoi (by omega) (by omega) p3 (fun td' hs' => ?_)
      have eaw : h + oc i = aw oc (i + 1) := by omega
      rw [eaw] at hs' ⊢
      rw [nI_1]
      refine ih (i + 1) fu _ _ _ _ td' (sl_of i (oc i) st) (by omega) (by omega) (by omega) (fun s hs'' => ?_) hs' (fun s hs'' => ?_) (fun hg => ?_) (fun s hs'' => ?_) ⟨fun a ha => ?_, fun a ha => ?_⟩
      · by_cases y : s = i
        · rw [y]; exact z
        · exact haw s (by omega)
      · rcases sl_mem _ _ s hs'' with y | ⟨k, y1, y2⟩
        · obtain ⟨w1, w2⟩ := hsl s (by simp [y]); exact ⟨by omega, w2⟩
        · have e1 : s / 3 = i := by omega
          have e2 : s % 3 = k := by omega
          rw [e1, e2]; exact ⟨by omega, y1⟩
      · obtain ⟨c1, c2⟩ := hcp hg
        refine sl_cp (oc i) st hoi ?_
        rw [((hG hg).1.2.2 i hin).2.2.1]; exact c2
      · by_cases y : s = i
        · subst y
          refine ⟨fun hg => ?_, fun w => by omega, fun _ hg => ⟨u, j, u1, u2, ?_, by rw [pk_us], by rw [pk_us], by rw [← Nat.add_assoc] at *; rw [show 360 + 3 * u + j = 360 + s0 by omega, pk_us]⟩⟩
          · rw [pk_us]
            obtain ⟨_, t2, t3⟩ := hG hg
            obtain ⟨c1, _⟩ := hcp hg
            rw [hu, hj] at c1
            have d1 := (t2.2 u (by omega) j u2).1
            rw [c1] at d1
            have d2 := (hyd u (by omega)).1 hg
            rw [d2, nI_add, ← d1, nr_b (by have := t3 s hin; omega)]
          · obtain ⟨c1, _⟩ := hcp hg
            rw [hu, hj] at c1; exact c1.symm
        · obtain ⟨w1, w2, w3⟩ := hyd s (by omega)
          rw [pk_un (by omega), pk_un (by omega)]
          refine ⟨w1, w2, fun s0' hg => ?_⟩
          obtain ⟨u', j', v1, v2, v3, v4, v5, v6⟩ := w3 s0' hg
          refine ⟨u', j', v1, v2, v3, v4, by rw [pk_un (by omega)]; exact v5, ?_⟩
          have hj3' := (ho u' (by omega)).1
          rw [pk_un (by
            intro w
            have : u' = u ∧ j' = j := by omega
            obtain ⟨c1, _⟩ := hcp hg
            rw [hu, hj] at c1
            rw [this.1, this.2, c1] at v3
            exact y v3)]
          exact v6
      · rw [pk_un (by omega), pk_un (by omega), pk_un (by omega)]; exact hyr.1 a ha
      · rw [pk_un (by omega)]; exact hyr.2 a ha
theorem y_shape {post : Int32 → SY → Prop} {f P n : Nat} {kN : Nat → Nat} {vl : Nat → Int32} {oc sp bd bi : Nat → Nat} {G : Prop} (hf : f < 5) (hP2 : P ≤ 2) (hl : ya_length 5 = nI n) (hx : yt_ok n ya_kind ya_value kN vl) (ho : yo_ok f P n kN vl oc ya_length ya_parameters)
    (hG : G → bw_is n oc sp ∧ tr_ok n kN oc sp bd bi ∧ (∀ s, s < n → bd s ≤ 100) ∧ bd 0 = P) (hGi : (∀ s, s < n → aw oc s ≠ 0) → aw oc n = 0 → G)
    (h1 : ∀ t up tu de be td, t < n → aw oc t = 0 → (∀ s, s < t → aw oc s ≠ 0) → yr_ok ya_up ya_turn ya_depth ya_below up tu de be → post (nI t) (yf_place, yf_points, yf_names, yf_textEnd, yf_made, yf_entry, yf_waiting, yf_values, yf_bound, yf_cells, yf_conses, yf_lams, yf_steps, yf_atWork, yf_end, yf_writtenCount, ya_kind, up, tu, de, ya_value, be, ya_length, ya_parameters, ya_codes, ya_codeCount, ya_form, ya_colour, ya_same, ya_one, ya_two, td, ya_numbered, ya_text, ya_ofFunction, ya_codeEnd, ya_instance, ya_token, ya_env, ya_tag, ya_cellEnv, ya_boundNext, ya_step, ya_boundNumber, ya_boundTag, ya_headTag, ya_tailTag, ya_number, ya_boundValue, ya_head, ya_tail, ya_written))
    (h2 : ∀ up tu de be td, (∀ s, s < n → aw oc s ≠ 0) → aw oc n = 0 → G → yr_ok ya_up ya_turn ya_depth ya_below up tu de be → yd_ok G oc sp bd up tu de be n → post (-1) (yf_place, yf_points, yf_names, yf_textEnd, yf_made, yf_entry, yf_waiting, yf_values, yf_bound, yf_cells, yf_conses, yf_lams, yf_steps, yf_atWork, yf_end, yf_writtenCount, ya_kind, up, tu, de, ya_value, be, ya_length, ya_parameters, ya_codes, ya_codeCount, ya_form, ya_colour, ya_same, ya_one, ya_two, td, ya_numbered, ya_text, ya_ofFunction, ya_codeEnd, ya_instance, ya_token, ya_env, ya_tag, ya_cellEnv, ya_boundNext, ya_step, ya_boundNumber, ya_boundTag, ya_headTag, ya_tailTag, ya_number, ya_boundValue, ya_head, ya_tail, ya_written))
    (h3 : ∀ up tu de be td, (∀ s, s < n → aw oc s ≠ 0) → aw oc n ≠ 0 → yr_ok ya_up ya_turn ya_depth ya_below up tu de be → post (nI n) (yf_place, yf_points, yf_names, yf_textEnd, yf_made, yf_entry, yf_waiting, yf_values, yf_bound, yf_cells, yf_conses, yf_lams, yf_steps, yf_atWork, yf_end, yf_writtenCount, ya_kind, up, tu, de, ya_value, be, ya_length, ya_parameters, ya_codes, ya_codeCount, ya_form, ya_colour, ya_same, ya_one, ya_two, td, ya_numbered, ya_text, ya_ofFunction, ya_codeEnd, ya_instance, ya_token, ya_env, ya_tag, ya_cellEnv, ya_boundNext, ya_step, ya_boundNumber, ya_boundTag, ya_headTag, ya_tailTag, ya_number, ya_boundValue, ya_head, ya_tail, ya_written)) :
    wpY_shape post (yf_place, yf_points, yf_names, yf_textEnd, yf_made, yf_entry, yf_waiting, yf_values, yf_bound, yf_cells, yf_conses, yf_lams, yf_steps, yf_atWork, yf_end, yf_writtenCount, ya_kind, ya_up, ya_turn, ya_depth, ya_value, ya_below, ya_length, ya_parameters, ya_codes, ya_codeCount, ya_form, ya_colour, ya_same, ya_one, ya_two, ya_todo, ya_numbered, ya_text, ya_ofFunction, ya_codeEnd, ya_instance, ya_token, ya_env, ya_tag, ya_cellEnv, ya_boundNext, ya_step, ya_boundNumber, ya_boundTag, ya_headTag, ya_tailTag, ya_number, ya_boundValue, ya_head, ya_tail, ya_written) (nI f) (nI P) := by
  have n24 := hx.1
  have a0 : aw oc 0 = 1 := rfl
  have yr0 : yr_ok ya_up ya_turn ya_depth ya_below ya_up ya_turn ya_depth ya_below := ⟨fun _ _ => ⟨rfl, rfl, rfl⟩, fun _ _ => rfl⟩
  refine nm_r (e' := nI n) hl (nm_r (e' := upd ya_todo 0 (-1)) (by rw [nr_sm]) (Exists.intro (n + 2) ?_))
  by_cases n0 : n = 0
  · subst n0
    exact br_t (by decide) (br_f (by decide) (h3 _ _ _ _ _ (fun s hs => by omega) (by rw [a0]; omega) yr0))
  · have hin : 0 < n := by omega
    have pin : vp_in ((120 : Int32) + 0) 264 := pk_in 120 264 (by omega)
    have c0 : ((120 : Int32) + 0).toNatClampNeg = 120 := nI_clamp (n := 120) (by omega)
    refine br_f (nI_ge (a := 0) (by omega) (by omega)) (br_f (by decide) (nm_r (e' := nI 0) (by decide) (And.intro (pk_in 0 1500 (by omega)) (nm_r (e' := -1) (by rw [nI_clamp (by omega), pk_us]) (br_f (by decide) ?_)))))
    refine And.intro pin (nm_r (e' := upd ya_up 120 (-1)) (by rw [c0, nr_bm']) (br_f (by decide) (And.intro pin (nm_r (e' := upd ya_turn 120 (nI 0)) (by rw [c0]; exact congrArg (upd ya_turn 120) (nr_b (n := 0) (by omega))) (br_t (by decide) (br_f (by decide) (And.intro pin (nm_r (e' := upd ya_depth 120 (nI P)) (by rw [c0, nr_b (by omega)]) ?_))))))))
    have hoi := (ho 0 hin).1
    have e120 : (120 : Int32) + 0 = nI (120 + 0) := rfl
    rw [e120]
    refine y_operands hf hin hx ho (nm_r (e' := nI (oc 0) + (-1)) (Int32.sub_eq_add_neg _ _) (Exists.intro (oc 0 + 1) ?_))
    refine y_sh180 (i := 0) (by omega) (oc 0) (oc 0 + 1) 0 _ [] hoi (by omega) (by omega) ⟨rfl, fun n hn => by simp at hn, fun i hi => by omega⟩ (fun td' hs' => ?_)
    have haw1 := aw_s (oc := oc) (t := 0) (by rw [a0]; omega)
    have eaw : 0 + oc 0 = aw oc (0 + 1) := by omega
    rw [eaw] at hs' ⊢
    refine y_sh20 (sp := sp) (bd := bd) (bi := bi) (G := G) hf hP2 hx ho (fun g => ⟨(hG g).1, (hG g).2.1, (hG g).2.2.1⟩) hGi h1 h2 h3 (n - 1) 1 (n + 1) _ _ _ _ td' (sl_of 0 (oc 0) []) (by omega) (by omega) (by omega) (fun s hs => ?_) hs' (fun s hs => ?_) (fun hg => ?_) (fun s hs => ?_) ⟨fun a ha => ?_, fun _ _ => rfl⟩
    · have : s = 0 := by omega
      subst this; rw [a0]; omega
    · rcases sl_mem _ _ s hs with y | ⟨k, y1, y2⟩
      · simp at y
      · have e1 : s / 3 = 0 := by omega
        have e2 : s % 3 = k := by omega
        rw [e1, e2]; exact ⟨by omega, y1⟩
    · exact sl_cp (oc 0) [] hoi trivial
    · have : s = 0 := by omega
      subst this
      refine ⟨fun hg => ?_, fun _ => ?_, fun w => by omega⟩
      · rw [Nat.add_zero, pk_us, (hG hg).2.2.2]
      · rw [Nat.add_zero, pk_us]
    · rw [pk_un (by omega), pk_un (by omega), pk_un (by omega)]; exact ⟨rfl, rfl, rfl⟩

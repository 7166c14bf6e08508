variable {f_saidPlace f_instanceCount f_nodeCount f_equationCount f_stackCount f_wordCount f_depth f_cellCount f_consCount f_closureCount f_stepCount f_runAnswer f_writtenCount : Int32} {a_kinds a_values a_spans a_bounds a_binders a_lengths a_parameterCounts a_typeCodes a_typeLengths a_instanceFunctions a_nodeKinds a_nodeLefts a_nodeRights a_nodeSizes a_equationLefts a_equationRights a_stackLefts a_stackRights a_words a_boundWords a_cellFirsts a_cellSeconds a_closureTokens a_closureWords a_written : Nat → Int32}
variable {yf_place yf_points yf_names yf_textEnd yf_made yf_entry yf_waiting yf_values yf_bound yf_cells yf_conses yf_lams yf_steps yf_atWork yf_end yf_writtenCount : Int32} {ya_kind ya_up ya_turn ya_depth ya_value ya_below ya_length ya_parameters ya_codes ya_codeCount ya_form ya_colour ya_same ya_one ya_two ya_todo ya_numbered ya_text ya_ofFunction ya_codeEnd ya_instance ya_token ya_env ya_tag ya_cellEnv ya_boundNext ya_step ya_boundNumber ya_boundTag ya_headTag ya_tailTag ya_number ya_boundValue ya_head ya_tail ya_written : Nat → Int32}
/-- function g has a call of one without a body -/
def lb (kN vN : Nat → Nat → Nat) (ln : Nat → Nat) (g : Nat) : Prop := ∃ t, t < ln g ∧ kN g t = 4 ∧ ln (vN g t) = 0
noncomputable def dp1 (kN vN : Nat → Nat → Nat) (ln : Nat → Nat) (g : Nat) : Nat → Nat := @ite _ (lb kN vN ln g) (Classical.propDecidable _) (updN ln g 0) ln
theorem dp1_t {kN vN : Nat → Nat → Nat} {ln : Nat → Nat} {g : Nat} (h : lb kN vN ln g) : dp1 kN vN ln g = updN ln g 0 := by unfold dp1; exact if_pos h
theorem dp1_f {kN vN : Nat → Nat → Nat} {ln : Nat → Nat} {g : Nat} (h : ¬ lb kN vN ln g) : dp1 kN vN ln g = ln := by unfold dp1; exact if_neg h
noncomputable def dpr (kN vN : Nat → Nat → Nat) (ln : Nat → Nat) : Nat → Nat → Nat
  | 0 => ln
  | g + 1 => dp1 kN vN (dpr kN vN ln g) g
noncomputable def dpn (kN vN : Nat → Nat → Nat) (ln : Nat → Nat) : Nat → Nat → Nat
  | 0 => ln
  | r + 1 => dpr kN vN (dpn kN vN ln r) 5
theorem dp1_or {kN vN : Nat → Nat → Nat} {ln : Nat → Nat} {g h : Nat} : dp1 kN vN ln g h = ln h ∨ dp1 kN vN ln g h = 0 := by
  by_cases z : lb kN vN ln g
  · rw [dp1_t z]
    by_cases y : h = g
    · subst y; exact Or.inr uN_s
    · exact Or.inl (uN_n y)
  · rw [dp1_f z]; exact Or.inl rfl
theorem dpr_or {kN vN : Nat → Nat → Nat} {ln : Nat → Nat} : ∀ g h, dpr kN vN ln g h = ln h ∨ dpr kN vN ln g h = 0 := by
  intro g
  induction g with
  | zero => intro h; exact Or.inl rfl
  | succ g ih =>
    intro h
    have e : dpr kN vN ln (g + 1) h = dp1 kN vN (dpr kN vN ln g) g h := rfl
    rw [e]
    rcases dp1_or (kN := kN) (vN := vN) (ln := dpr kN vN ln g) (g := g) (h := h) with z | z
    · rw [z]; exact ih h
    · exact Or.inr z
theorem dpn_or {kN vN : Nat → Nat → Nat} {ln : Nat → Nat} : ∀ r h, dpn kN vN ln r h = ln h ∨ dpn kN vN ln r h = 0 := by
  intro r
  induction r with
  | zero => intro h; exact Or.inl rfl
  | succ r ih =>
    intro h
    have e : dpn kN vN ln (r + 1) h = dpr kN vN (dpn kN vN ln r) 5 h := rfl
    rw [e]
    rcases dpr_or (kN := kN) (vN := vN) (ln := dpn kN vN ln r) 5 h with z | z
    · rw [z]; exact ih h
    · exact Or.inr z
def nz (ln : Nat → Nat) : Nat := sm (fun h => if ln h = 0 then 0 else 1) 5
theorem nz_le {ln ln' : Nat → Nat} (h : ∀ g, ln' g = ln g ∨ ln' g = 0) : nz ln' ≤ nz ln := by
  unfold nz
  have := sm_mul (g := fun h => if ln' h = 0 then 0 else 1) (h := fun h => if ln h = 0 then 0 else 1) (a := 1) (b := 1) 5 (fun j _ => by
    rcases h j with z | z
    · rw [z]; exact Nat.le_refl _
    · rw [if_pos z]; omega)
  omega
theorem nz_dn {ln : Nat → Nat} {g : Nat} (hg : g < 5) (h : ln g ≠ 0) : nz (updN ln g 0) + 1 = nz ln := by
  have := sm_one (g := fun h => if ln h = 0 then 0 else 1) (g' := fun h => if updN ln g 0 h = 0 then 0 else 1) (a := g) 5 hg (fun j _ hj => by simp only [uN_n hj])
  simp only [uN_s, if_neg h, if_true] at this
  unfold nz; omega
theorem dpr_id {kN vN : Nat → Nat → Nat} {ln : Nat → Nat} : ∀ g, (∀ h, h < g → ¬ lb kN vN ln h) → dpr kN vN ln g = ln := by
  intro g
  induction g with
  | zero => intro _; rfl
  | succ g ih =>
    intro h
    have e := ih (fun k hk => h k (by omega))
    show dp1 kN vN (dpr kN vN ln g) g = ln
    rw [e]; exact dp1_f (h g (by omega))
/-- a round reaches one more, or none is left -/
theorem dpr_dn {kN vN : Nat → Nat → Nat} {ln : Nat → Nat} : (∀ g, g < 5 → ¬ lb kN vN ln g) ∨ nz (dpr kN vN ln 5) < nz ln := by
  by_cases h : ∃ g, g < 5 ∧ lb kN vN ln g
  · right
    obtain ⟨g, ⟨hg, hl⟩, hmin⟩ := pk_least (fun g => g < 5 ∧ lb kN vN ln g) h
    have e : dpr kN vN ln g = ln := dpr_id g (fun k hk z => hmin k hk ⟨by omega, z⟩)
    have e1 : dpr kN vN ln (g + 1) = updN ln g 0 := by
      show dp1 kN vN (dpr kN vN ln g) g = _
      rw [e]; exact dp1_t hl
    have hne : ln g ≠ 0 := by obtain ⟨t, ht, _⟩ := hl; omega
    have h1 := nz_dn hg hne
    have hge : ∀ d, nz (dpr kN vN ln (g + 1 + d)) ≤ nz (dpr kN vN ln (g + 1)) := by
      intro d
      induction d with
      | zero => exact Nat.le_refl _
      | succ d ih =>
        have := nz_le (ln := dpr kN vN ln (g + 1 + d)) (ln' := dpr kN vN ln (g + 1 + (d + 1))) (fun k => dp1_or)
        omega
    have h2 := hge (5 - (g + 1))
    have e5 : g + 1 + (5 - (g + 1)) = 5 := by omega
    rw [e5, e1] at h2
    omega
  · left
    intro g hg z
    exact h ⟨g, hg, z⟩
theorem dpn_st {kN vN : Nat → Nat → Nat} {ln : Nat → Nat} {f : Nat} (hf : f < 5) (h0 : ln f = 0) : ∀ g, g < 5 → ¬ lb kN vN (dpn kN vN ln 5) g := by
  have nz4 : nz ln ≤ 4 := by
    have h1 := sm_one (g := fun h => if updN ln f 1 h = 0 then 0 else 1) (g' := fun h => if ln h = 0 then 0 else 1) (a := f) 5 hf (fun j _ hj => by simp only [uN_n hj])
    have h2 := sm_le (g := fun h => if updN ln f 1 h = 0 then 0 else 1) (b := 1) 5 (fun j _ => by split <;> omega)
    simp only [uN_s, if_pos h0] at h1
    unfold nz
    have h3 : ¬ (1 : Nat) = 0 := by omega
    simp only [if_neg h3] at h1
    omega
  have key : ∀ r, (∀ g, g < 5 → ¬ lb kN vN (dpn kN vN ln r) g) ∨ nz (dpn kN vN ln r) + r ≤ 4 := by
    intro r
    induction r with
    | zero => exact Or.inr nz4
    | succ r ih =>
      rcases ih with z | z
      · left
        have e : dpn kN vN ln (r + 1) = dpn kN vN ln r := dpr_id 5 z
        rw [e]; exact z
      · rcases dpr_dn (kN := kN) (vN := vN) (ln := dpn kN vN ln r) with y | y
        · left
          have e : dpn kN vN ln (r + 1) = dpn kN vN ln r := dpr_id 5 y
          rw [e]; exact y
        · right
          have e : dpn kN vN ln (r + 1) = dpr kN vN (dpn kN vN ln r) 5 := rfl
          rw [e]; omega
  rcases key 5 with z | z
  · exact z
  · omega
/-- tokens of the five functions, as X holds them -/
def xl_ok (ki va : Nat → Int32) (kN vN : Nat → Nat → Nat) (n0 : Nat → Nat) : Prop := ∀ g, g < 5 → n0 g ≤ 24 ∧ ∀ t, t < n0 g → ki (g * 24 + t) = nI (kN g t) ∧ kN g t ≤ 16 ∧ (kN g t = 4 → vN g t < 5 ∧ va (g * 24 + t) = nI (vN g t))
theorem x_cm7 {post : Int32 → Prop} {g : Nat} {kN vN : Nat → Nat → Nat} {n0 ln : Nat → Nat} (hg : g < 5) (hx : xl_ok a_kinds a_values kN vN n0) (hl : ∀ h, h < 5 → a_lengths h = nI (ln h) ∧ ln h ≤ n0 h) (h1 : lb kN vN ln g → post 1) (h0 : ¬ lb kN vN ln g → post 0) :
    ∀ q t fu (x : Int32), t + q = ln g → q < fu → (x = 0 ∧ (∀ s, s < t → ¬ (kN g s = 4 ∧ ln (vN g s) = 0)) ∨ x = 1 ∧ lb kN vN ln g) → wX_callsMissing_7 post (nI g) f_saidPlace f_instanceCount f_nodeCount f_equationCount f_stackCount f_wordCount f_depth f_cellCount f_consCount f_closureCount f_stepCount f_runAnswer f_writtenCount a_kinds a_values a_spans a_bounds a_binders a_lengths a_parameterCounts a_typeCodes a_typeLengths a_instanceFunctions a_nodeKinds a_nodeLefts a_nodeRights a_nodeSizes a_equationLefts a_equationRights a_stackLefts a_stackRights a_words a_boundWords a_cellFirsts a_cellSeconds a_closureTokens a_closureWords a_written fu x (nI (g * 24 + t)) := by
  obtain ⟨n24, hxt⟩ := hx g hg
  obtain ⟨l1, l2⟩ := hl g hg
  have e24 : nI g * 24 + nI (ln g) = nI (g * 24 + ln g) := ix_24 g (ln g)
  intro q
  induction q with
  | zero =>
    intro t fu x ht hfu hx'
    obtain ⟨fu, rfl⟩ : ∃ g, fu = g + 1 := ⟨fu - 1, by omega⟩
    have e : t = ln g := by omega
    refine And.intro (pk_in g 11 (by omega)) ?_
    rw [nI_clamp (n := g) (by omega), l1, e24]
    rcases hx' with ⟨rfl, hx'⟩ | ⟨rfl, hx'⟩
    · refine br_t (nI_le (by omega) (by omega)) (And.intro bo_0 (h0 (fun z => ?_)))
      obtain ⟨s, s1, s2, s3⟩ := z
      exact hx' s (by omega) ⟨s2, s3⟩
    · exact br_t (nI_le (by omega) (by omega)) (And.intro bo_1 (h1 hx'))
  | succ q ih =>
    intro t fu x ht hfu hx'
    obtain ⟨fu, rfl⟩ : ∃ g, fu = g + 1 := ⟨fu - 1, by omega⟩
    obtain ⟨b1, b2, b3⟩ := hxt t (by omega)
    have en : nI (g * 24 + t) + 1 = nI (g * 24 + (t + 1)) := nI_1 (g * 24 + t)
    refine And.intro (pk_in g 11 (by omega)) ?_
    rw [nI_clamp (n := g) (by omega), l1, e24]
    refine br_f (nI_ge (by omega) (by omega)) ?_
    rcases hx' with ⟨rfl, hx'⟩ | ⟨rfl, hx'⟩
    · refine br_t rfl (x_missing (by omega) b1 b2 (fun z => ⟨vN g t, b3 z⟩) (fun h => br_f n1_0 (nm_r en (ih (t + 1) fu 1 (by omega) (by omega) (Or.inr ⟨rfl, ?_⟩)))) (fun h => br_t rfl (nm_r en (ih (t + 1) fu 0 (by omega) (by omega) (Or.inl ⟨rfl, fun s hs => ?_⟩)))))
      · obtain ⟨k4, h', g1, g2, g3⟩ := h
        have eh : h' = vN g t := by rw [(b3 k4).2] at g2; have := (b3 k4).1; exact ((nI_eq (by omega) (by omega)).mp g2).symm
        rw [eh, (hl _ (b3 k4).1).1] at g3
        have := (hl _ (b3 k4).1).2
        have := (hx _ (b3 k4).1).1
        exact ⟨t, by omega, k4, (nI_eq (b := 0) (by omega) (by omega)).mp g3⟩
      · by_cases y : s = t
        · subst y
          rintro ⟨k4, z⟩
          refine h k4 (vN g s) (b3 k4).1 (b3 k4).2 ?_
          rw [(hl _ (b3 k4).1).1, z]; rfl
        · exact hx' s (by omega)
    · exact br_f n1_0 (nm_r en (ih (t + 1) fu 1 (by omega) (by omega) (Or.inr ⟨rfl, hx'⟩)))
theorem x_callsMissing {post : Int32 → Prop} {g : Nat} {kN vN : Nat → Nat → Nat} {n0 ln : Nat → Nat} (hg : g < 5) (hx : xl_ok a_kinds a_values kN vN n0) (hl : ∀ h, h < 5 → a_lengths h = nI (ln h) ∧ ln h ≤ n0 h) (h1 : lb kN vN ln g → post 1) (h0 : ¬ lb kN vN ln g → post 0) : wpX_callsMissing post (f_saidPlace, f_instanceCount, f_nodeCount, f_equationCount, f_stackCount, f_wordCount, f_depth, f_cellCount, f_consCount, f_closureCount, f_stepCount, f_runAnswer, f_writtenCount, a_kinds, a_values, a_spans, a_bounds, a_binders, a_lengths, a_parameterCounts, a_typeCodes, a_typeLengths, a_instanceFunctions, a_nodeKinds, a_nodeLefts, a_nodeRights, a_nodeSizes, a_equationLefts, a_equationRights, a_stackLefts, a_stackRights, a_words, a_boundWords, a_cellFirsts, a_cellSeconds, a_closureTokens, a_closureWords, a_written) (nI g) := by
  have := (hl g hg).2
  have := (hx g hg).1
  refine nm_r (e' := nI (g * 24 + 0)) (pk_mul g 24) (Exists.intro (ln g + 1) (x_cm7 hg hx hl h1 h0 (ln g) 0 (ln g + 1) 0 (by omega) (by omega) (Or.inl ⟨rfl, fun s hs => by omega⟩)))
def yl_ok (ki va : Nat → Int32) (kN vN : Nat → Nat → Nat) (n0 : Nat → Nat) : Prop := ∀ g, g < 5 → n0 g ≤ 24 ∧ ∀ t, t < n0 g → ki (24 * g + t) = nI (kN g t) ∧ kN g t ≤ 16 ∧ (kN g t = 4 → vN g t < 5 ∧ va (24 * g + t) = nI (vN g t))
theorem y_lost5 {post : Int32 → Prop} {g : Nat} {kN vN : Nat → Nat → Nat} {n0 ln : Nat → Nat} (hg : g < 5) (hx : yl_ok ya_kind ya_value kN vN n0) (hl : ∀ h, h < 5 → ya_length h = nI (ln h) ∧ ln h ≤ n0 h) (h1 : lb kN vN ln g → post 1) (h0 : ¬ lb kN vN ln g → post 0) :
    ∀ q t fu, t + q = ln g → q < fu → (∀ s, s < t → ¬ (kN g s = 4 ∧ ln (vN g s) = 0)) → wY_lost_5 post (nI g) yf_place yf_points yf_names yf_textEnd yf_made yf_entry yf_waiting yf_values yf_bound yf_cells yf_conses yf_lams yf_steps yf_atWork yf_end yf_writtenCount ya_kind ya_up ya_turn ya_depth ya_value ya_below ya_length ya_parameters ya_codes ya_codeCount ya_form ya_colour ya_same ya_one ya_two ya_todo ya_numbered ya_text ya_ofFunction ya_codeEnd ya_instance ya_token ya_env ya_tag ya_cellEnv ya_boundNext ya_step ya_boundNumber ya_boundTag ya_headTag ya_tailTag ya_number ya_boundValue ya_head ya_tail ya_written fu (nI (24 * g + t)) := by
  obtain ⟨n24, hxt⟩ := hx g hg
  obtain ⟨l1, l2⟩ := hl g hg
  have e24 : 24 * nI g + nI (ln g) = nI (24 * g + ln g) := ix24 g (ln g)
  intro q
  induction q with
  | zero =>
    intro t fu ht hfu hx'
    obtain ⟨fu, rfl⟩ : ∃ g, fu = g + 1 := ⟨fu - 1, by omega⟩
    refine And.intro (pk_in g 11 (by omega)) ?_
    rw [nI_clamp (n := g) (by omega), l1, e24]
    refine br_t (nI_le (by omega) (by omega)) (h0 (fun z => ?_))
    obtain ⟨s, s1, s2, s3⟩ := z
    exact hx' s (by omega) ⟨s2, s3⟩
  | succ q ih =>
    intro t fu ht hfu hx'
    obtain ⟨fu, rfl⟩ : ∃ g, fu = g + 1 := ⟨fu - 1, by omega⟩
    obtain ⟨b1, b2, b3⟩ := hxt t (by omega)
    have en : nI (24 * g + t) + 1 = nI (24 * g + (t + 1)) := nI_1 (24 * g + t)
    have pin : vp_in (nI (24 * g + t)) 264 := pk_in (24 * g + t) 264 (by omega)
    refine And.intro (pk_in g 11 (by omega)) ?_
    rw [nI_clamp (n := g) (by omega), l1, e24]
    refine br_f (nI_ge (by omega) (by omega)) (And.intro pin ?_)
    rw [nI_clamp (n := 24 * g + t) (by omega), b1]
    have next : ¬ (kN g t = 4 ∧ ln (vN g t) = 0) → wY_lost_5 post (nI g) yf_place yf_points yf_names yf_textEnd yf_made yf_entry yf_waiting yf_values yf_bound yf_cells yf_conses yf_lams yf_steps yf_atWork yf_end yf_writtenCount ya_kind ya_up ya_turn ya_depth ya_value ya_below ya_length ya_parameters ya_codes ya_codeCount ya_form ya_colour ya_same ya_one ya_two ya_todo ya_numbered ya_text ya_ofFunction ya_codeEnd ya_instance ya_token ya_env ya_tag ya_cellEnv ya_boundNext ya_step ya_boundNumber ya_boundTag ya_headTag ya_tailTag ya_number ya_boundValue ya_head ya_tail ya_written fu (nI (24 * g + (t + 1))) := by
      intro z
      refine ih (t + 1) fu (by omega) (by omega) (fun s hs => ?_)
      by_cases y : s = t
      · subst y; exact z
      · exact hx' s (by omega)
    refine pk_eq (kN g t) 4 (fun k4 => And.intro pin ?_) (fun k4 => nm_r en (next (fun z => k4 z.1)))
    obtain ⟨v1, v2⟩ := b3 k4
    have := (hl _ v1).2
    have := (hx _ v1).1
    rw [v2]
    refine And.intro (pk_in (vN g t) 11 (by omega)) ?_
    rw [nI_clamp (n := vN g t) (by omega), (hl _ v1).1]
    exact pk_eq (ln (vN g t)) 0 (fun z => h1 ⟨t, by omega, k4, z⟩) (fun z => nm_r en (next (fun w => z w.2)))
theorem y_lost {post : Int32 → Prop} {g : Nat} {kN vN : Nat → Nat → Nat} {n0 ln : Nat → Nat} (hg : g < 5) (hx : yl_ok ya_kind ya_value kN vN n0) (hl : ∀ h, h < 5 → ya_length h = nI (ln h) ∧ ln h ≤ n0 h) (h1 : lb kN vN ln g → post 1) (h0 : ¬ lb kN vN ln g → post 0) : wpY_lost post (yf_place, yf_points, yf_names, yf_textEnd, yf_made, yf_entry, yf_waiting, yf_values, yf_bound, yf_cells, yf_conses, yf_lams, yf_steps, yf_atWork, yf_end, yf_writtenCount, ya_kind, ya_up, ya_turn, ya_depth, ya_value, ya_below, ya_length, ya_parameters, ya_codes, ya_codeCount, ya_form, ya_colour, ya_same, ya_one, ya_two, ya_todo, ya_numbered, ya_text, ya_ofFunction, ya_codeEnd, ya_instance, ya_token, ya_env, ya_tag, ya_cellEnv, ya_boundNext, ya_step, ya_boundNumber, ya_boundTag, ya_headTag, ya_tailTag, ya_number, ya_boundValue, ya_head, ya_tail, ya_written) (nI g) := by
  have := (hl g hg).2
  have := (hx g hg).1
  refine nm_r (e' := nI (24 * g + 0)) (pk_mul 24 g) (Exists.intro (ln g + 1) (y_lost5 hg hx hl h1 h0 (ln g) 0 (ln g + 1) (by omega) (by omega) (fun s hs => by omega)))

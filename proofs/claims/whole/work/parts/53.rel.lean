variable {f_saidPlace f_instanceCount f_nodeCount f_equationCount f_stackCount f_wordCount f_depth f_cellCount f_consCount f_closureCount f_stepCount f_runAnswer f_writtenCount : Int32} {a_kinds a_values a_spans a_bounds a_binders a_lengths a_parameterCounts a_typeCodes a_typeLengths a_instanceFunctions a_nodeKinds a_nodeLefts a_nodeRights a_nodeSizes a_equationLefts a_equationRights a_stackLefts a_stackRights a_words a_boundWords a_cellFirsts a_cellSeconds a_closureTokens a_closureWords a_written : Nat → Int32}
variable {yf_place yf_points yf_names yf_textEnd yf_made yf_entry yf_waiting yf_values yf_bound yf_cells yf_conses yf_lams yf_steps yf_atWork yf_end yf_writtenCount : Int32} {ya_kind ya_up ya_turn ya_depth ya_value ya_below ya_length ya_parameters ya_codes ya_codeCount ya_form ya_colour ya_same ya_one ya_two ya_todo ya_numbered ya_text ya_ofFunction ya_codeEnd ya_instance ya_token ya_env ya_tag ya_cellEnv ya_boundNext ya_step ya_boundNumber ya_boundTag ya_headTag ya_tailTag ya_number ya_boundValue ya_head ya_tail ya_written : Nat → Int32}
/-- the function that a CALL names -/
def vnf (vl : Nat → Nat → Int32) (g t : Nat) : Nat := (vl g t).toNatClampNeg
theorem dp_f {kN vN : Nat → Nat → Nat} {ln : Nat → Nat} {f : Nat} : dpn kN vN (updN ln f 0) 5 f = 0 := by
  rcases dpn_or (kN := kN) (vN := vN) (ln := updN ln f 0) 5 f with z | z
  · rw [z, uN_s]
  · exact z
theorem dp_g {kN vN : Nat → Nat → Nat} {ln : Nat → Nat} {f g : Nat} (h : dpn kN vN (updN ln f 0) 5 g ≠ 0) : g ≠ f ∧ dpn kN vN (updN ln f 0) 5 g = ln g := by
  have hgf : g ≠ f := by intro z; subst z; exact h dp_f
  rcases dpn_or (kN := kN) (vN := vN) (ln := updN ln f 0) 5 g with z | z
  · rw [uN_n hgf] at z; exact ⟨hgf, z⟩
  · exact absurd z h
theorem lib_drop {ln P : Nat → Nat} {kN : Nat → Nat → Nat} {vl : Nat → Nat → Int32} {oc sp bd bi : Nat → Nat → Nat} {cod : Nat → List Nat} {f : Nat} (hf : f < 5) (h : lib ln P kN vl oc sp bd bi cod) : lib (dpn kN (vnf vl) (updN ln f 0) 5) P kN vl oc sp bd bi cod := by
  intro g hg hl
  obtain ⟨hgf, e⟩ := dp_g hl
  rw [e] at hl ⊢
  obtain ⟨l1, l2, l3, l4, l5, l6, l7⟩ := h g hg hl
  refine ⟨l1, l2, l3, l4, l5, fun t ht z => ?_, l7⟩
  obtain ⟨h', h1, h2, h3, h4⟩ := l6 t ht z
  refine ⟨h', h1, h2, fun w => ?_, h4⟩
  refine dpn_st (kN := kN) (vN := vnf vl) (ln := updN ln f 0) hf uN_s g hg ⟨t, by rw [e]; exact ht, z, ?_⟩
  unfold vnf
  rw [h2, nI_clamp (by omega)]; exact w
def rel_d (ki va len yki yva ylen : Nat → Int32) (n : Nat) (dk : Nat → Nat) (dv : Nat → Int32) : Prop := len 10 = nI n ∧ ylen 5 = nI n ∧ xt_ok 10 n ki va dk dv ∧ yt_ok n yki yva dk dv
def mx_ok (ln P : Nat → Nat) (kN : Nat → Nat → Nat) (vl : Nat → Nat → Int32) (sp bd : Nat → Nat → Nat) (ki va spa bou len pc : Nat → Int32) : Prop :=
  ∀ g, g < 5 → ln g ≠ 0 → len (5 + g) = nI (ln g) ∧ pc (5 + g) = nI (P g) ∧ ∀ t, t < ln g → ki ((5 + g) * 24 + t) = nI (kN g t) ∧ (kN g t = 4 → ∀ h, h < 5 → vl g t = nI h → va ((5 + g) * 24 + t) = nI (5 + h)) ∧ (kN g t ≠ 4 → va ((5 + g) * 24 + t) = vl g t) ∧ spa ((5 + g) * 24 + t) = nI (sp g t) ∧ bou ((5 + g) * 24 + t) = nI (bd g t)
def my_ok (ln P : Nat → Nat) (kN : Nat → Nat → Nat) (vl : Nat → Nat → Int32) (oc sp : Nat → Nat → Nat) (ki va be par : Nat → Int32) : Prop :=
  ∀ g, g < 5 → ln g ≠ 0 → par (6 + g) = nI (P g) ∧ ∀ t, t < ln g → ki (24 * (6 + g) + t) = nI (kN g t) ∧ va (24 * (6 + g) + t) = vl g t ∧ ∀ j, j < oc g t → be (72 * (6 + g) + 3 * t + j) = nI (jp (sp g) t j)
/-- what is made -/
def rel_m (fic : Int32) (ki va spa bou len pc tc tl ifn : Nat → Int32) (ymade yentry : Int32) (yki yva ybe ypar yof yce yin : Nat → Int32) : Prop :=
  ∃ (m : Nat) (fi : Nat → Nat) (ic : Nat → List Nat), m ≤ 12 ∧ fic = nI m ∧ ymade = nI m ∧
    (∀ i, i < m → fi i < 5 ∧ ifn i = nI (fi i) ∧ rw_ok (5 + i) tc tl (ic i) ∧ yof i = nI (fi i) ∧ yce i = nI (ic i).length ∧ ∀ k, k < (ic i).length → yin (50 * i + k) = nI ((ic i).getD k 0)) ∧
    ((m = 0 ∧ yentry = -1) ∨ (0 < m ∧ yentry = nI (fi 0) ∧ ∃ (ln P : Nat → Nat) (kN : Nat → Nat → Nat) (vl : Nat → Nat → Int32) (oc sp bd bi : Nat → Nat → Nat) (cod : Nat → List Nat), lib ln P kN vl oc sp bd bi cod ∧ ln (fi 0) ≠ 0 ∧ P (fi 0) = 0 ∧
      mx_ok ln P kN vl sp bd ki va spa bou len pc ∧ my_ok ln P kN vl oc sp yki yva ybe ypar ∧ ∃ T0, mt_wf T0 ∧ ic 0 = mt_enc T0 ∧ sc_inst (cod (fi 0)) [T0] ∧ (mt_enc T0).length ≤ 14))
def rel_r (st wc : Int32) (wr : Nat → Int32) (yst ywc : Int32) (ywr : Nat → Int32) : Prop := st = yst ∧ ∃ w, w ≤ 400 ∧ wc = nI w ∧ ywc = nI w ∧ ∀ k, k < w → wr k = ywr k
def rel_b (ki va spa bou bin len pc tc tl yki yva yup ytu yde ybe ylen ypar yco ycn : Nat → Int32) : Prop :=
  ∃ (ln P : Nat → Nat) (kN : Nat → Nat → Nat) (vl : Nat → Nat → Int32) (oc sp bd bi : Nat → Nat → Nat) (cod : Nat → List Nat), lib ln P kN vl oc sp bd bi cod ∧ lx_ok ln P kN vl sp bd bi cod ki va spa bou bin len pc tc tl ∧ ly_ok ln P kN vl oc sp bd cod yki yva yup ytu yde ybe ylen ypar yco ycn
def rel (f_saidPlace f_instanceCount f_nodeCount f_equationCount f_stackCount f_wordCount f_depth f_cellCount f_consCount f_closureCount f_stepCount f_runAnswer f_writtenCount : Int32) (a_kinds a_values a_spans a_bounds a_binders a_lengths a_parameterCounts a_typeCodes a_typeLengths a_instanceFunctions a_nodeKinds a_nodeLefts a_nodeRights a_nodeSizes a_equationLefts a_equationRights a_stackLefts a_stackRights a_words a_boundWords a_cellFirsts a_cellSeconds a_closureTokens a_closureWords a_written : Nat → Int32) (yf_place yf_points yf_names yf_textEnd yf_made yf_entry yf_waiting yf_values yf_bound yf_cells yf_conses yf_lams yf_steps yf_atWork yf_end yf_writtenCount : Int32) (ya_kind ya_up ya_turn ya_depth ya_value ya_below ya_length ya_parameters ya_codes ya_codeCount ya_form ya_colour ya_same ya_one ya_two ya_todo ya_numbered ya_text ya_ofFunction ya_codeEnd ya_instance ya_token ya_env ya_tag ya_cellEnv ya_boundNext ya_step ya_boundNumber ya_boundTag ya_headTag ya_tailTag ya_number ya_boundValue ya_head ya_tail ya_written : Nat → Int32) : Prop :=
  f_saidPlace = yf_place ∧ rel_b a_kinds a_values a_spans a_bounds a_binders a_lengths a_parameterCounts a_typeCodes a_typeLengths ya_kind ya_value ya_up ya_turn ya_depth ya_below ya_length ya_parameters ya_codes ya_codeCount ∧
  (∃ n dk dv, rel_d a_kinds a_values a_lengths ya_kind ya_value ya_length n dk dv) ∧
  rel_m f_instanceCount a_kinds a_values a_spans a_bounds a_lengths a_parameterCounts a_typeCodes a_typeLengths a_instanceFunctions yf_made yf_entry ya_kind ya_value ya_below ya_parameters ya_ofFunction ya_codeEnd ya_instance ∧
  rel_r f_stepCount f_writtenCount a_written yf_steps yf_writtenCount ya_written
theorem rm_congr {fic : Int32} {ki va spa bou len pc tc tl ifn ki' va' spa' bou' len' pc' tc' tl' : Nat → Int32} {ymade yentry : Int32} {yki yva ybe ypar yof yce yin yki' yva' ybe' ypar' : Nat → Int32} (h : rel_m fic ki va spa bou len pc tc tl ifn ymade yentry yki yva ybe ypar yof yce yin)
    (h1 : ∀ j, 120 ≤ j → j < 240 → ki' j = ki j ∧ va' j = va j ∧ spa' j = spa j ∧ bou' j = bou j) (h2 : ∀ j, 5 ≤ j → j < 10 → len' j = len j ∧ pc' j = pc j) (h3 : ∀ j, 210 ≤ j → tc' j = tc j) (h4 : ∀ j, 5 ≤ j → tl' j = tl j)
    (h5 : ∀ j, 144 ≤ j → yki' j = yki j ∧ yva' j = yva j) (h6 : ∀ j, 432 ≤ j → ybe' j = ybe j) (h7 : ∀ j, 6 ≤ j → ypar' j = ypar j) :
    rel_m fic ki' va' spa' bou' len' pc' tc' tl' ifn ymade yentry yki' yva' ybe' ypar' yof yce yin := by
  obtain ⟨m, fi, ic, m1, m2, m3, m4, m5⟩ := h
  refine ⟨m, fi, ic, m1, m2, m3, fun i hi => ?_, ?_⟩
  · obtain ⟨a1, a2, ⟨b1, b2, b3, b4⟩, a4, a5, a6⟩ := m4 i hi
    refine ⟨a1, a2, ⟨b1, b2, ?_, fun k hk => ?_⟩, a4, a5, a6⟩
    · rw [h4 _ (by omega)]; exact b3
    · rw [h3 _ (by omega)]; exact b4 k hk
  · rcases m5 with m5 | ⟨p1, p2, ln, P, kN, vl, oc, sp, bd, bi, cod, q1, q2, q3, q4, q5, q6⟩
    · exact Or.inl m5
    · refine Or.inr ⟨p1, p2, ln, P, kN, vl, oc, sp, bd, bi, cod, q1, q2, q3, fun g hg hl => ?_, fun g hg hl => ?_, q6⟩
      · obtain ⟨a1, a2, a3⟩ := q4 g hg hl
        have n24 := (q1 g hg hl).1.1
        rw [(h2 (5 + g) (by omega) (by omega)).1, (h2 (5 + g) (by omega) (by omega)).2]
        refine ⟨a1, a2, fun t ht => ?_⟩
        obtain ⟨e1, e2, e3, e4⟩ := h1 ((5 + g) * 24 + t) (by omega) (by omega)
        rw [e1, e2, e3, e4]; exact a3 t ht
      · obtain ⟨a2, a3⟩ := q5 g hg hl
        rw [h7 (6 + g) (by omega)]
        refine ⟨a2, fun t ht => ?_⟩
        obtain ⟨e1, e2⟩ := h5 (24 * (6 + g) + t) (by omega)
        obtain ⟨c1, c2, c3⟩ := a3 t ht
        rw [e1, e2]
        exact ⟨c1, c2, fun j hj => by rw [h6 _ (by omega)]; exact c3 j hj⟩
/-- X's functions, after a slot f that has no body was written over -/
theorem lx_drop {ln ln1 P : Nat → Nat} {kN : Nat → Nat → Nat} {vl : Nat → Nat → Int32} {sp bd bi : Nat → Nat → Nat} {cod : Nat → List Nat} {ki va spa bou bin len pc tc tl ki' va' spa' bou' bin' len' pc' : Nat → Int32} {f : Nat} (hx : lx_ok ln P kN vl sp bd bi cod ki va spa bou bin len pc tc tl)
    (h1 : ∀ g, ln1 g ≠ 0 → g ≠ f ∧ ln1 g = ln g) (h2 : ∀ j, j < f * 24 ∨ f * 24 + 24 ≤ j → ki' j = ki j ∧ va' j = va j ∧ spa' j = spa j ∧ bou' j = bou j ∧ bin' j = bin j) (h3 : ∀ g, g < 5 → len' g = nI (ln1 g)) (h4 : ∀ g, g < 5 → g ≠ f → pc' g = pc g) :
    lx_ok ln1 P kN vl sp bd bi cod ki' va' spa' bou' bin' len' pc' tc tl := by
  intro g hg
  obtain ⟨x1, x2, x3⟩ := hx g hg
  refine ⟨h3 g hg, ?_, fun hl => ?_⟩
  · by_cases z : ln1 g = 0
    · omega
    · rw [(h1 g z).2]; exact x2
  · obtain ⟨hgf, e⟩ := h1 g hl
    rw [e] at hl ⊢
    obtain ⟨y1, y2, y3⟩ := x3 hl
    rw [h4 g hg hgf]
    refine ⟨y1, fun t ht => ?_, y3⟩
    obtain ⟨e1, e2, e3, e4, e5⟩ := h2 (g * 24 + t) (by omega)
    rw [e1, e2, e3, e4, e5]; exact y2 t ht
theorem yb_congr {row n : Nat} {ki va up tu de be ki' va' up' tu' de' be' : Nat → Int32} {kN : Nat → Nat} {vl : Nat → Int32} {oc sp bd : Nat → Nat} (hn : n ≤ 24) (hoc : ∀ t, t < n → oc t ≤ 3) (h : yb_ok row n ki va up tu de be kN vl oc sp bd)
    (h1 : ∀ j, 24 * row ≤ j → j < 24 * row + 24 → ki' j = ki j ∧ va' j = va j ∧ up' j = up j ∧ tu' j = tu j ∧ de' j = de j) (h2 : ∀ j, 72 * row ≤ j → j < 72 * row + 72 → be' j = be j) : yb_ok row n ki' va' up' tu' de' be' kN vl oc sp bd := by
  intro t ht
  obtain ⟨a1, a2, a3, a4, a5, a6⟩ := h t ht
  obtain ⟨e1, e2, e3, e4, e5⟩ := h1 (24 * row + t) (by omega) (by omega)
  rw [e1, e2, e3, e4, e5]
  refine ⟨a1, a2, a3, fun j hj => ?_, a5, a6⟩
  have := hoc t ht
  rw [h2 _ (by omega) (by omega)]; exact a4 j hj
theorem ly_drop {ln ln1 P : Nat → Nat} {kN : Nat → Nat → Nat} {vl : Nat → Nat → Int32} {oc sp bd bi : Nat → Nat → Nat} {cod : Nat → List Nat} {ki va up tu de be len par co cn ki' va' up' tu' de' be' len' par' : Nat → Int32} {f : Nat} (hlib : lib ln P kN vl oc sp bd bi cod) (hy : ly_ok ln P kN vl oc sp bd cod ki va up tu de be len par co cn)
    (h1 : ∀ g, ln1 g ≠ 0 → g ≠ f ∧ ln1 g = ln g) (h2 : ∀ j, j < 120 → (j < 24 * f ∨ 24 * f + 24 ≤ j) → ki' j = ki j ∧ va' j = va j ∧ up' j = up j ∧ tu' j = tu j ∧ de' j = de j) (h2' : ∀ j, j < 360 → (j < 72 * f ∨ 72 * f + 72 ≤ j) → be' j = be j) (h3 : ∀ g, g < 5 → len' g = nI (ln1 g)) (h4 : ∀ g, g < 5 → g ≠ f → par' g = par g) :
    ly_ok ln1 P kN vl oc sp bd cod ki' va' up' tu' de' be' len' par' co cn := by
  intro g hg
  obtain ⟨x1, x3⟩ := hy g hg
  refine ⟨h3 g hg, fun hl => ?_⟩
  obtain ⟨hgf, e⟩ := h1 g hl
  rw [e] at hl ⊢
  obtain ⟨y1, y2, y3⟩ := x3 hl
  have hb := (hlib g hg hl).1
  rw [h4 g hg hgf]
  refine ⟨y1, yb_congr hb.1 (fun t ht => (hb.2.2.2.2 t ht).2.1) y2 (fun j j1 j2 => h2 j (by omega) (by omega)) (fun j j1 j2 => h2' j (by omega) (by omega)), y3⟩
theorem ub_iff {bd kN : Nat → Nat} {vl : Nat → Int32} {mis mis' : Nat → Prop} {t : Nat} (h : ∀ g, g < 5 → mis g → mis' g) (hu : ub bd kN vl mis t) : ub bd kN vl mis' t := by
  rcases hu with a | a | ⟨a, g, b, c, d⟩
  · exact Or.inl a
  · exact Or.inr (Or.inl a)
  · exact Or.inr (Or.inr ⟨a, g, b, c, h g b d⟩)
/-- operands of the draft's tokens, as f's body with P parameters -/
def ocf (f P : Nat) (ln1 Pg dk : Nat → Nat) (dv : Nat → Int32) (t : Nat) : Nat := if dk t = 4 then (if (dv t).toNatClampNeg = f then P else if ln1 (dv t).toNatClampNeg = 0 then 0 else Pg (dv t).toNatClampNeg) else ar (dk t)
theorem ocf_c {f P : Nat} {ln1 Pg dk : Nat → Nat} {dv : Nat → Int32} {t g : Nat} (h4 : dk t = 4) (hg : g < 5) (hv : dv t = nI g) : ocf f P ln1 Pg dk dv t = if g = f then P else if ln1 g = 0 then 0 else Pg g := by
  unfold ocf
  rw [if_pos h4, hv, nI_clamp (by omega)]
theorem ocf_3 {f P : Nat} {ln1 Pg dk : Nat → Nat} {dv : Nat → Int32} {t : Nat} (hP : P ≤ 2) (hPg : ∀ g, g < 5 → ln1 g ≠ 0 → Pg g ≤ 2) (hk : dk t ≤ 16) (hv : dk t = 4 → ∃ g, g < 5 ∧ dv t = nI g) : ocf f P ln1 Pg dk dv t ≤ 3 ∧ (dk t = 4 → ocf f P ln1 Pg dk dv t ≤ 2) ∧ (dk t ≠ 4 → ocf f P ln1 Pg dk dv t = ar (dk t)) := by
  by_cases z : dk t = 4
  · obtain ⟨g, g1, g2⟩ := hv z
    have : ocf f P ln1 Pg dk dv t ≤ 2 := by
      rw [ocf_c z g1 g2]
      split
      · exact hP
      · split
        · omega
        · next a b => exact hPg g g1 b
    exact ⟨by omega, fun _ => this, fun y => absurd z y⟩
  · have e : ocf f P ln1 Pg dk dv t = ar (dk t) := by unfold ocf; rw [if_neg z]
    exact ⟨by rw [e]; exact ar_3 ⟨dk t, by omega⟩, fun y => absurd y z, fun _ => e⟩

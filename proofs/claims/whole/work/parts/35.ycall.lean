variable {yf_place yf_points yf_names yf_textEnd yf_made yf_entry yf_waiting yf_values yf_bound yf_cells yf_conses yf_lams yf_steps yf_atWork yf_end yf_writtenCount : Int32} {ya_kind ya_up ya_turn ya_depth ya_value ya_below ya_length ya_parameters ya_codes ya_codeCount ya_form ya_colour ya_same ya_one ya_two ya_todo ya_numbered ya_text ya_ofFunction ya_codeEnd ya_instance ya_token ya_env ya_tag ya_cellEnv ya_boundNext ya_step ya_boundNumber ya_boundTag ya_headTag ya_tailTag ya_number ya_boundValue ya_head ya_tail ya_written : Nat → Int32}
theorem y_read6 {post : Int32 → SY → Prop} {x1 x2 x3 x4 : Int32} (hP : ∀ nu', (∀ v, v < 50 → nu' v = -1) → ∃ n32, wY_read_32 post x1 x3 n32 x4 (x2 - 1) yf_place yf_points yf_names yf_textEnd yf_made yf_entry yf_waiting yf_values yf_bound yf_cells yf_conses yf_lams yf_steps yf_atWork yf_end yf_writtenCount ya_kind ya_up ya_turn ya_depth ya_value ya_below ya_length ya_parameters ya_codes ya_codeCount ya_form ya_colour ya_same ya_one ya_two ya_todo nu' ya_text ya_ofFunction ya_codeEnd ya_instance ya_token ya_env ya_tag ya_cellEnv ya_boundNext ya_step ya_boundNumber ya_boundTag ya_headTag ya_tailTag ya_number ya_boundValue ya_head ya_tail ya_written) :
    ∀ f i nu, i ≤ 50 → 50 < f + i → (∀ v, v < i → nu v = -1) → wY_read_6 post x1 x2 x3 x4 yf_place yf_points yf_names yf_textEnd yf_made yf_entry yf_waiting yf_values yf_bound yf_cells yf_conses yf_lams yf_steps yf_atWork yf_end yf_writtenCount f (nI i) ya_kind ya_up ya_turn ya_depth ya_value ya_below ya_length ya_parameters ya_codes ya_codeCount ya_form ya_colour ya_same ya_one ya_two ya_todo nu ya_text ya_ofFunction ya_codeEnd ya_instance ya_token ya_env ya_tag ya_cellEnv ya_boundNext ya_step ya_boundNumber ya_boundTag ya_headTag ya_tailTag ya_number ya_boundValue ya_head ya_tail ya_written := by
  intro f
  induction f with
  | zero => intro i nu h1 h2; omega
  | succ f ih =>
    intro i nu h1 h2 hz
    refine pk_le 50 i (fun h => nm_e (hP nu (fun v hv => hz v (by omega)))) (fun h => And.intro (pk_in i 50 (by omega)) (nm_r (e' := upd nu i (-1)) (by rw [nI_clamp (by omega), nr_sm]) (nm_r (nI_1 i) (ih (i + 1) _ (by omega) (by omega) (fun v hv => ?_)))))
    by_cases z : v = i
    · subst z; exact pk_us
    · rw [pk_un z]; exact hz v (by omega)
theorem y_read {post : Int32 → SY → Prop} {B F : Nat} {fl : Bool} {x3 : Int32} {ts : List mt_T} {Lc : List Nat} {K : Nat → Int32} {L R rt ds : Nat → Nat} (h74 : 74 ≤ B) (hB : B + Lc.length ≤ 790) (hx3 : x3 = if fl then 1 else 0) (hw : ∀ t ∈ ts, mt_wf t) (hL : mt_encs ts = Lc) (hl42 : Lc.length ≤ 42)
    (hc60 : ∀ k, k < Lc.length → Lc.getD k 0 < 60) (hsrc : (fl = false ∧ F + Lc.length ≤ 240 ∧ ∀ k, k < Lc.length → ya_codes (F + k) = nI (Lc.getD k 0)) ∨ (fl = true ∧ F + Lc.length ≤ 650 ∧ ∀ k, k < Lc.length → ya_instance (F + k) = nI (Lc.getD k 0)))
    (hg : yg_ok B ya_form ya_same ya_one ya_two K L R rt ds)
    (hP : ∀ N' fo' sa' on' tw' td' nu' K' L' R' rt' ds' tg st, B ≤ N' → N' ≤ B + Lc.length → yg_ok N' fo' sa' on' tw' K' L' R' rt' ds' → (∀ n, n < B → K' n = K n ∧ L' n = L n ∧ R' n = R n) → tl_is B N' K' L' R' tg → rv_ok B N' K' tg nu' → rk_ok B N' td' st → st.map tg = ts →
      post (nI st.length) (yf_place, (nI N'), yf_names, yf_textEnd, yf_made, yf_entry, yf_waiting, yf_values, yf_bound, yf_cells, yf_conses, yf_lams, yf_steps, yf_atWork, yf_end, yf_writtenCount, ya_kind, ya_up, ya_turn, ya_depth, ya_value, ya_below, ya_length, ya_parameters, ya_codes, ya_codeCount, fo', ya_colour, sa', on', tw', td', nu', ya_text, ya_ofFunction, ya_codeEnd, ya_instance, ya_token, ya_env, ya_tag, ya_cellEnv, ya_boundNext, ya_step, ya_boundNumber, ya_boundTag, ya_headTag, ya_tailTag, ya_number, ya_boundValue, ya_head, ya_tail, ya_written)) :
    wpY_read post (yf_place, (nI B), yf_names, yf_textEnd, yf_made, yf_entry, yf_waiting, yf_values, yf_bound, yf_cells, yf_conses, yf_lams, yf_steps, yf_atWork, yf_end, yf_writtenCount, ya_kind, ya_up, ya_turn, ya_depth, ya_value, ya_below, ya_length, ya_parameters, ya_codes, ya_codeCount, ya_form, ya_colour, ya_same, ya_one, ya_two, ya_todo, ya_numbered, ya_text, ya_ofFunction, ya_codeEnd, ya_instance, ya_token, ya_env, ya_tag, ya_cellEnv, ya_boundNext, ya_step, ya_boundNumber, ya_boundTag, ya_headTag, ya_tailTag, ya_number, ya_boundValue, ya_head, ya_tail, ya_written) (nI F) (nI (F + Lc.length)) x3 := by
  refine Exists.intro 51 (y_read6 (fun nu' hnu => Exists.intro (Lc.length + 1) ?_) 51 0 _ (by omega) (by omega) (fun v hv => by omega))
  rw [Int32.sub_eq_add_neg]
  refine y_read32 h74 hB hx3 hw hL hl42 hc60 hsrc hP Lc.length (Lc.length + 1) B _ _ _ _ _ nu' K L R rt ds (fun _ => .leaf 0) [] (Nat.le_refl _) (by omega) (Nat.le_refl _) (Nat.le_refl _) hg (fun n _ => ⟨rfl, rfl, rfl⟩) (fun n h1 h2 => by omega) ⟨fun v hv => Or.inl (hnu v hv), fun n v h1 h2 => by omega⟩ ⟨fun n hn => by simp at hn, fun q hq => by simp at hq⟩ (fun n hn => by simp at hn) ?_ (by simp)
  rw [List.drop_eq_nil_of_le (Nat.le_refl _)]; rfl
/-- a row that was read: what its nodes say -/
theorem rd_st {B M P b : Nat} {Lc : List Nat} {ts : List mt_T} {fo sa on tw nu K K' : Nat → Int32} {L R rt ds L' R' a : Nat → Nat} {tg : Nat → mt_T} {st : List Nat} {C F : (Nat → mt_T) → Prop} (hg : yg_ok B fo sa on tw K L R rt ds) (hC : ∀ r, gr_sat B K L R r ↔ C r) (hM : B ≤ M)
    (hw : ∀ t ∈ ts, mt_wf t) (hL : mt_encs ts = Lc) (hlen : ts.length = P + 1) (hlow : ∀ n, n < B → K' n = K n ∧ L' n = L n ∧ R' n = R n) (htl : tl_is B M K' L' R' tg) (hrv : rv_ok B M K' tg nu) (hst : ∀ n ∈ st, B ≤ n ∧ n < M) (hmap : st.map tg = ts)
    (ha : ∀ j, j < P → a j < B) (hb : b < B) (hM2 : M < 2 ^ 31)
    (hF : ∀ r, F r ↔ gr_sat M K' L' R' r ∧ (∀ j, j < P → r (a j) = r (st.getD j 0)) ∧ r b = r (st.getD P 0)) :
    ys_ok B C F (fun r => sc_inst Lc ((List.range P).map (fun j => r (a j)) ++ [r b])) := by
  have hlenst : st.length = P + 1 := by rw [← hlen, ← hmap, List.length_map]
  have hget : ∀ j, j ≤ P → (B ≤ st.getD j 0 ∧ st.getD j 0 < M) ∧ tg (st.getD j 0) = ts.getD j (.leaf 0) := by
    intro j hj
    refine ⟨hst _ (gd_mem st j (by omega)), ?_⟩
    rw [← hmap]
    simp [List.getD_eq_getElem?_getD, List.getElem?_map, List.getElem?_eq_getElem (show j < st.length by omega)]
  have hext := fun r => gr_sat_ext (r := r) (N := B) (M := M) (K := K) (K' := K') (L := L) (L' := L') (R := R) (R' := R') hM (fun n hn => (hlow n hn).1) (fun n hn _ => (hlow n hn).2.1) (fun n hn _ => (hlow n hn).2.2)
  have hv : ∀ n v, B ≤ n → n < M → K' n = 10 → tg n = .leaf (10 + v) → (nu v).toNatClampNeg = n := by
    intro n v h1 h2 h3 h4
    rw [(hrv.2 n v h1 h2 h3 h4).2]; exact nI_clamp (by omega)
  refine ⟨fun r hwf h => ?_, fun r hwf hc hr => ?_⟩
  · obtain ⟨h1, e1, e2⟩ := (hF r).mp h
    obtain ⟨g1, g2⟩ := (hext r).mp h1
    refine ⟨(hC r).mp g1, ts, hw, hL, fun v => r (nu v).toNatClampNeg, fun v => hwf _, (tu_iff P ts _ _ _ hlen).mpr ?_⟩
    have key : ∀ j, j ≤ P → r (st.getD j 0) = mt_sub (fun v => r (nu v).toNatClampNeg) (ts.getD j (.leaf 0)) := by
      intro j hj
      obtain ⟨k1, k2⟩ := hget j hj
      rw [← k2]
      exact tl_1 (nv := fun v => (nu v).toNatClampNeg) htl hv g2 _ _ k1.1 k1.2 (Nat.le_refl _)
    exact ⟨fun j hj => by rw [e1 j hj]; exact key j (by omega), by rw [e2]; exact key P (Nat.le_refl _)⟩
  · obtain ⟨ts', hw', hL', s, hs, hts⟩ := hr
    have ets : ts' = ts := mt_decs ts' ts hw' hw (hL'.trans hL.symm)
    subst ets
    obtain ⟨e1, e2⟩ := (tu_iff P ts' _ _ _ hlen).mp hts
    let r' : Nat → mt_T := fun n => if n < B then r n else if n < M then mt_sub s (tg n) else .leaf 0
    have rl : ∀ n, n < B → r' n = r n := fun n hn => if_pos hn
    have rh : ∀ n, B ≤ n → n < M → r' n = mt_sub s (tg n) := fun n h3 h4 => by show (if n < B then _ else if n < M then _ else _) = _; rw [if_neg (by omega), if_pos h4]
    have hlo : gr_sat B K L R r' := by
      refine gr_sat_low (fun n hn hk => ?_) (fun n hn hk => ((hg.1 n hn).2.2.2.2.2.2.1 hk).2) rl ((hC r).mpr hc)
      rcases hk with z | z
      · exact ((hg.2 n hn).2.2.2.1 z).1
      · exact ((hg.1 n hn).2.2.2.2.2.1 z).2
    refine ⟨r', fun n => ?_, rl, (hF r').mpr ⟨(hext r').mpr ⟨hlo, tl_2 htl rh⟩, fun j hj => ?_, ?_⟩⟩
    · show mt_wf (if n < B then _ else if n < M then _ else _)
      by_cases z : n < B
      · rw [if_pos z]; exact hwf n
      · rw [if_neg z]
        by_cases z2 : n < M
        · rw [if_pos z2]; exact mt_sub_wf hs _ (htl n (by omega) z2).1
        · rw [if_neg z2]; exact mt_wf0
    · obtain ⟨k1, k2⟩ := hget j (by omega)
      rw [rl _ (ha j hj), rh _ k1.1 k1.2, k2]
      exact e1 j hj
    · obtain ⟨k1, k2⟩ := hget P (Nat.le_refl _)
      rw [rl _ hb, rh _ k1.1 k1.2, k2]
      exact e2
theorem yc_of {N : Nat} {fo sa on tw K : Nat → Int32} {L R rt ds : Nat → Nat} (h : yg_ok N fo sa on tw K L R rt ds) : yc_ok N fo sa on tw (gr_sat N K L R) := ⟨K, L, R, rt, ds, h, fun _ => Iff.rfl⟩
theorem yc_iff {N : Nat} {fo sa on tw : Nat → Int32} {C D : (Nat → mt_T) → Prop} (h : yc_ok N fo sa on tw C) (e : ∀ r, C r ↔ D r) : yc_ok N fo sa on tw D := by
  obtain ⟨K, L, R, rt, ds, g, hs⟩ := h
  exact ⟨K, L, R, rt, ds, g, fun r => (hs r).trans (e r)⟩
theorem ix24 (f t : Nat) : (24 : Int32) * nI f + nI t = nI (24 * f + t) := by rw [← nI_add]; exact congrArg (· + nI t) (pk_mul 24 f)
theorem ix72 (f t : Nat) : (72 : Int32) * nI f + 3 * nI t = nI (72 * f + 3 * t) := by
  rw [← nI_add]
  have e1 : (72 : Int32) * nI f = nI (72 * f) := pk_mul 72 f
  have e2 : (3 : Int32) * nI t = nI (3 * t) := pk_mul 3 t
  rw [e1, e2]
/-- a body as Y holds it in a row -/
def yb_ok (row n : Nat) (ki va up tu de be : Nat → Int32) (kN : Nat → Nat) (vl : Nat → Int32) (oc sp bd : Nat → Nat) : Prop :=
  ∀ t, t < n → ki (24 * row + t) = nI (kN t) ∧ va (24 * row + t) = vl t ∧ de (24 * row + t) = nI (bd t) ∧ (∀ j, j < oc t → be (72 * row + 3 * t + j) = nI (jp sp t j)) ∧
    (t = 0 → up (24 * row + t) = -1) ∧ (0 < t → ∃ s j, s < t ∧ j < oc s ∧ t = jp sp s j ∧ up (24 * row + t) = nI s ∧ tu (24 * row + t) = nI j)
/-- how many variables operand j of a token of kind k has more -/
def bn (k j : Nat) : Nat := if k = 14 ∧ j = 1 ∨ k = 15 then 1 else if k = 10 ∧ j = 2 then 2 else 0
def tr_ok (n : Nat) (kN oc sp bd bi : Nat → Nat) : Prop := bi 0 = 0 ∧ ∀ t, t < n → ∀ j, j < oc t → bd (jp sp t j) = bd t + bn (kN t) j ∧ bi (jp sp t j) = (if bn (kN t) j = 0 then bi t else t + 1)
theorem y_binds {post : Int32 → Prop} {a k j : Nat} (ha : a < 264) (hk : ya_kind a = nI k) (hk2 : k ≤ 16) (hj : j < 3) (hp : post (nI (bn k j))) : wpY_binds post (yf_place, yf_points, yf_names, yf_textEnd, yf_made, yf_entry, yf_waiting, yf_values, yf_bound, yf_cells, yf_conses, yf_lams, yf_steps, yf_atWork, yf_end, yf_writtenCount, ya_kind, ya_up, ya_turn, ya_depth, ya_value, ya_below, ya_length, ya_parameters, ya_codes, ya_codeCount, ya_form, ya_colour, ya_same, ya_one, ya_two, ya_todo, ya_numbered, ya_text, ya_ofFunction, ya_codeEnd, ya_instance, ya_token, ya_env, ya_tag, ya_cellEnv, ya_boundNext, ya_step, ya_boundNumber, ya_boundTag, ya_headTag, ya_tailTag, ya_number, ya_boundValue, ya_head, ya_tail, ya_written) (nI a) (nI j) := by
  have ca : (nI a).toNatClampNeg = a := nI_clamp (by omega)
  refine And.intro (pk_in a 264 ha) (nm_r (e' := nI k) (by rw [ca]; exact hk) ?_)
  have h18 : ¬ (k = 14 ∧ j = 1) → wY_binds_18 post (nI j) (nI k) yf_place yf_points yf_names yf_textEnd yf_made yf_entry yf_waiting yf_values yf_bound yf_cells yf_conses yf_lams yf_steps yf_atWork yf_end yf_writtenCount ya_kind ya_up ya_turn ya_depth ya_value ya_below ya_length ya_parameters ya_codes ya_codeCount ya_form ya_colour ya_same ya_one ya_two ya_todo ya_numbered ya_text ya_ofFunction ya_codeEnd ya_instance ya_token ya_env ya_tag ya_cellEnv ya_boundNext ya_step ya_boundNumber ya_boundTag ya_headTag ya_tailTag ya_number ya_boundValue ya_head ya_tail ya_written := by
    intro h14
    refine pk_eq k 15 (fun z => ?_) (fun z => pk_eq k 10 (fun z2 => pk_eq j 2 (fun z3 => ?_) (fun z3 => ?_)) (fun z2 => ?_))
    · have : bn k j = 1 := by unfold bn; rw [if_pos (Or.inr z)]
      rw [this] at hp; exact hp
    · have : bn k j = 2 := by unfold bn; rw [if_neg (by omega), if_pos ⟨z2, z3⟩]
      rw [this] at hp; exact hp
    · have : bn k j = 0 := by unfold bn; rw [if_neg (by omega), if_neg (by omega)]
      rw [this] at hp; exact hp
    · have : bn k j = 0 := by unfold bn; rw [if_neg (by omega), if_neg (by omega)]
      rw [this] at hp; exact hp
  refine pk_eq k 14 (fun z => pk_eq j 1 (fun z2 => ?_) (fun z2 => h18 (by omega))) (fun z => h18 (by omega))
  have : bn k j = 1 := by unfold bn; rw [if_pos (Or.inl ⟨z, z2⟩)]
  rw [this] at hp; exact hp
theorem bn_2 (k j : Nat) : bn k j ≤ 2 := by unfold bn; split; omega; split <;> omega
theorem y_var29 {post : Int32 → Prop} {row n v : Nat} {kN : Nat → Nat} {vl : Nat → Int32} {oc sp bd bi : Nat → Nat} (hrow : row ≤ 10) (hn : n ≤ 24) (hv : v < 10) (hb : yb_ok row n ya_kind ya_value ya_up ya_turn ya_depth ya_below kN vl oc sp bd) (ht : tr_ok n kN oc sp bd bi)
    (hoc : ∀ t, t < n → oc t ≤ 3) (hk : ∀ t, t < n → kN t ≤ 16) (hbd : ∀ t, t < n → bd t ≤ 12) (hbi : ∀ t, t < n → bi t ≤ t) :
    ∀ k fu, k < n → k < fu → post (nI (vw bi bd (bi k) (bi k) v)) → ∀ u, u = ya_up (24 * row + k) → wY_variable_29 post (nI row) (nI v) yf_place yf_points yf_names yf_textEnd yf_made yf_entry yf_waiting yf_values yf_bound yf_cells yf_conses yf_lams yf_steps yf_atWork yf_end yf_writtenCount ya_kind ya_up ya_turn ya_depth ya_value ya_below ya_length ya_parameters ya_codes ya_codeCount ya_form ya_colour ya_same ya_one ya_two ya_todo ya_numbered ya_text ya_ofFunction ya_codeEnd ya_instance ya_token ya_env ya_tag ya_cellEnv ya_boundNext ya_step ya_boundNumber ya_boundTag ya_headTag ya_tailTag ya_number ya_boundValue ya_head ya_tail ya_written fu (nI k) u := by
  intro k
  induction k using Nat.strongRecOn with
  | _ k ih =>
    intro fu hkn hfu hp u hu
    obtain ⟨fu, rfl⟩ : ∃ g, fu = g + 1 := ⟨fu - 1, by omega⟩
    obtain ⟨_, _, _, _, b5, b6⟩ := hb k hkn
    by_cases k0 : k = 0
    · have e := b5 k0
      rw [hu, e]
      subst k0
      rw [ht.1] at hp
      refine br_t (by decide) (br_f (by decide) ?_)
      rw [ix_72]; exact hp
    · obtain ⟨s, j, s1, s2, s3, s4, s5⟩ := b6 (by omega)
      rw [hu, s4]
      have hsn : s < n := by omega
      have hj := hoc s hsn
      obtain ⟨c1, _, c3, _, _, _⟩ := hb s hsn
      obtain ⟨t1, t2⟩ := ht.2 s hsn j s2
      rw [← s3] at t1 t2
      have cs : (24 * nI row + nI s).toNatClampNeg = 24 * row + s := by rw [ix24]; exact nI_clamp (by omega)
      have ck : (24 * nI row + nI k).toNatClampNeg = 24 * row + k := by rw [ix24]; exact nI_clamp (by omega)
      have up : bi k = bi s → wY_variable_76 post (wY_variable_29 post (nI row) (nI v) yf_place yf_points yf_names yf_textEnd yf_made yf_entry yf_waiting yf_values yf_bound yf_cells yf_conses yf_lams yf_steps yf_atWork yf_end yf_writtenCount ya_kind ya_up ya_turn ya_depth ya_value ya_below ya_length ya_parameters ya_codes ya_codeCount ya_form ya_colour ya_same ya_one ya_two ya_todo ya_numbered ya_text ya_ofFunction ya_codeEnd ya_instance ya_token ya_env ya_tag ya_cellEnv ya_boundNext ya_step ya_boundNumber ya_boundTag ya_headTag ya_tailTag ya_number ya_boundValue ya_head ya_tail ya_written fu) (nI row) (nI v) (nI s) yf_place yf_points yf_names yf_textEnd yf_made yf_entry yf_waiting yf_values yf_bound yf_cells yf_conses yf_lams yf_steps yf_atWork yf_end yf_writtenCount ya_kind ya_up ya_turn ya_depth ya_value ya_below ya_length ya_parameters ya_codes ya_codeCount ya_form ya_colour ya_same ya_one ya_two ya_todo ya_numbered ya_text ya_ofFunction ya_codeEnd ya_instance ya_token ya_env ya_tag ya_cellEnv ya_boundNext ya_step ya_boundNumber ya_boundTag ya_headTag ya_tailTag ya_number ya_boundValue ya_head ya_tail ya_written := by
        intro e
        refine And.intro (pk_in (24 * row + s) 264 (by omega) (ix24 _ _)) (fun x hx => ih s s1 fu hsn (by omega) (by rw [← e]; exact hp) x (by rw [hx, cs]))
      refine br_f (nI_pos (by omega)) (And.intro (pk_in (24 * row + k) 264 (by omega) (ix24 _ _)) ?_)
      rw [ck, s5, ix24]
      have hb2 := bn_2 (kN s) j
      refine y_binds (by omega) c1 (hk s hsn) (by omega) (pk_eq (bn (kN s) j) 0 (fun z => up (by rw [t2, if_pos z])) (fun z => And.intro (pk_in (24 * row + s) 264 (by omega)) ?_))
      rw [if_neg z] at t2
      have e : vw bi bd (bi k) (bi k) v = if bd s ≤ v then 24 + 2 * s + (v - bd s) else vw bi bd s (bi s) v := by
        rw [t2]; simp only [vw, if_neg (show ¬ s + 1 = 0 by omega), Nat.add_sub_cancel]
      rw [nI_clamp (by omega), c3]
      have hbs := hbd s hsn
      refine pk_le (bd s) v (fun h => ?_) (fun h => ?_)
      · rw [e, if_pos h] at hp
        refine br_t (nI_pos' (by omega)) (And.intro (pk_in (24 * row + s) 264 (by omega) (ix24 _ _)) ?_)
        rw [cs, c3, ix_2, nI_add, pk_sub (by omega)]
        have : 24 + 2 * s + v - bd s = 24 + 2 * s + (v - bd s) := by omega
        rw [this]; exact hp
      · rw [e, if_neg (by omega)] at hp
        refine And.intro (pk_in (24 * row + s) 264 (by omega) (ix24 _ _)) (fun x hx => ih s s1 fu hsn (by omega) ?_ x (by rw [hx, cs]))
        have hbis := hbi s hsn
        rw [vw_fuel' (bi s) s (bi s) v (Nat.le_refl _) hbis (fun t ht' => hbi t (by omega))]; exact hp
theorem y_variable {post : Int32 → Prop} {row n t v : Nat} {kN : Nat → Nat} {vl : Nat → Int32} {oc sp bd bi : Nat → Nat} (hrow : row ≤ 10) (hn : n ≤ 24) (hv : v < 10) (hb : yb_ok row n ya_kind ya_value ya_up ya_turn ya_depth ya_below kN vl oc sp bd) (htr : tr_ok n kN oc sp bd bi)
    (hoc : ∀ t, t < n → oc t ≤ 3) (hk : ∀ t, t < n → kN t ≤ 16) (hbd : ∀ t, t < n → bd t ≤ 12) (hbi : ∀ t, t < n → bi t ≤ t) (ht : t < n) (hvl : vl t = nI v) (hp : post (nI (vw bi bd (bi t) (bi t) v))) : wpY_variable post (yf_place, yf_points, yf_names, yf_textEnd, yf_made, yf_entry, yf_waiting, yf_values, yf_bound, yf_cells, yf_conses, yf_lams, yf_steps, yf_atWork, yf_end, yf_writtenCount, ya_kind, ya_up, ya_turn, ya_depth, ya_value, ya_below, ya_length, ya_parameters, ya_codes, ya_codeCount, ya_form, ya_colour, ya_same, ya_one, ya_two, ya_todo, ya_numbered, ya_text, ya_ofFunction, ya_codeEnd, ya_instance, ya_token, ya_env, ya_tag, ya_cellEnv, ya_boundNext, ya_step, ya_boundNumber, ya_boundTag, ya_headTag, ya_tailTag, ya_number, ya_boundValue, ya_head, ya_tail, ya_written) (nI row) (nI t) := by
  have ct : (24 * nI row + nI t).toNatClampNeg = 24 * row + t := by rw [ix24]; exact nI_clamp (by omega)
  refine And.intro (pk_in (24 * row + t) 264 (by omega) (ix24 _ _)) (nm_r (e' := nI v) (by rw [ct, (hb t ht).2.1]; exact hvl) (And.intro (pk_in (24 * row + t) 264 (by omega) (ix24 _ _)) (fun x hx => Exists.intro 25 ?_)))
  exact y_var29 hrow hn hv hb htr hoc hk hbd hbi t 25 ht (by omega) hp x (by rw [hx, ct])

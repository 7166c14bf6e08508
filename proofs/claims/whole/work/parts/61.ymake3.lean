variable {yf_place yf_points yf_names yf_textEnd yf_made yf_entry yf_waiting yf_values yf_bound yf_cells yf_conses yf_lams yf_steps yf_atWork yf_end yf_writtenCount : Int32} {ya_kind ya_up ya_turn ya_depth ya_value ya_below ya_length ya_parameters ya_codes ya_codeCount ya_form ya_colour ya_same ya_one ya_two ya_todo ya_numbered ya_text ya_ofFunction ya_codeEnd ya_instance ya_token ya_env ya_tag ya_cellEnv ya_boundNext ya_step ya_boundNumber ya_boundTag ya_headTag ya_tailTag ya_number ya_boundValue ya_head ya_tail ya_written : Nat → Int32}
theorem y_gt107 {post : Int32 → SY → Prop} {f M P : Nat} {C : (Nat → mt_T) → Prop} {st : List Nat} {x5 : Int32} (hf : f < 5) (hpa : ya_parameters f = nI P) (hP2 : P ≤ 2) (h74 : 74 ≤ M) (hM : M ≤ 790) (hx5 : P = 2 → x5 = nI (st.getD 1 0)) (hst : ∀ q, q ≤ P → st.getD q 0 < M) (hc : yc_ok M ya_form ya_same ya_one ya_two C)
    (hex : ∃ r, C r ∧ ∀ j, j < P → r (72 + j) = r (st.getD j 0)) (hK : ∀ sa td, yc_ok M ya_form sa ya_one ya_two (fun r => C r ∧ (P = 2 → r 73 = r (st.getD 1 0))) → wY_goThrough_127 post (nI f) yf_place yf_points yf_names yf_textEnd yf_made yf_entry yf_waiting yf_values yf_bound yf_cells yf_conses yf_lams yf_steps yf_atWork yf_end yf_writtenCount ya_kind ya_up ya_turn ya_depth ya_value ya_below ya_length ya_parameters ya_codes ya_codeCount ya_form ya_colour sa ya_one ya_two td ya_numbered ya_text ya_ofFunction ya_codeEnd ya_instance ya_token ya_env ya_tag ya_cellEnv ya_boundNext ya_step ya_boundNumber ya_boundTag ya_headTag ya_tailTag ya_number ya_boundValue ya_head ya_tail ya_written) : wY_goThrough_107 post (nI f) x5 yf_place yf_points yf_names yf_textEnd yf_made yf_entry yf_waiting yf_values yf_bound yf_cells yf_conses yf_lams yf_steps yf_atWork yf_end yf_writtenCount ya_kind ya_up ya_turn ya_depth ya_value ya_below ya_length ya_parameters ya_codes ya_codeCount ya_form ya_colour ya_same ya_one ya_two ya_todo ya_numbered ya_text ya_ofFunction ya_codeEnd ya_instance ya_token ya_env ya_tag ya_cellEnv ya_boundNext ya_step ya_boundNumber ya_boundTag ya_headTag ya_tailTag ya_number ya_boundValue ya_head ya_tail ya_written := by
  refine And.intro (pk_in f 11 (by omega)) ?_
  rw [nI_clamp (n := f) (by omega), hpa]
  refine pk_le P 1 (fun z => hK _ _ (yc_iff hc (fun r => ⟨fun h => ⟨h, fun w => by omega⟩, fun h => h.1⟩))) (fun z => ?_)
  have e : P = 2 := by omega
  rw [hx5 e]
  refine y_joinC (N := M) (a := 73) (b := st.getD 1 0) (C := C) h74 (by omega) (by omega) (hst 1 (by omega)) hc (fun sa td g => hK sa td (yc_iff g (fun r => ⟨fun h => ⟨h.1, fun _ => h.2⟩, fun h => ⟨h.1, h.2 e⟩⟩))) (fun sa td g => ?_)
  obtain ⟨r, r1, r2⟩ := hex
  exact absurd ⟨r1, r2 1 (by omega)⟩ (g r)
theorem y_gt67 {post : Int32 → SY → Prop} {f M P : Nat} {C : (Nat → mt_T) → Prop} {st : List Nat} {x4 z0 : Int32} (hf : f < 5) (hpa : ya_parameters f = nI P) (hP2 : P ≤ 2) (h74 : 74 ≤ M) (hM : M ≤ 790) (hx4 : x4 = nI (st.getD 0 0)) (hx5 : P = 2 → z0 = nI (st.getD 1 0)) (ho : ya_todo 1000 = nI (st.getD P 0)) (hst : ∀ q, q ≤ P → st.getD q 0 < M) (hc : yc_ok M ya_form ya_same ya_one ya_two C)
    (hex : ∃ r, C r ∧ (∀ j, j < P → r (72 + j) = r (st.getD j 0)) ∧ r 0 = r (st.getD P 0)) (hK : ∀ sa td, yc_ok M ya_form sa ya_one ya_two (fun r => C r ∧ (∀ j, j < P → r (72 + j) = r (st.getD j 0)) ∧ r 0 = r (st.getD P 0)) → wY_goThrough_127 post (nI f) yf_place yf_points yf_names yf_textEnd yf_made yf_entry yf_waiting yf_values yf_bound yf_cells yf_conses yf_lams yf_steps yf_atWork yf_end yf_writtenCount ya_kind ya_up ya_turn ya_depth ya_value ya_below ya_length ya_parameters ya_codes ya_codeCount ya_form ya_colour sa ya_one ya_two td ya_numbered ya_text ya_ofFunction ya_codeEnd ya_instance ya_token ya_env ya_tag ya_cellEnv ya_boundNext ya_step ya_boundNumber ya_boundTag ya_headTag ya_tailTag ya_number ya_boundValue ya_head ya_tail ya_written) : wY_goThrough_67 post (nI f) x4 z0 yf_place yf_points yf_names yf_textEnd yf_made yf_entry yf_waiting yf_values yf_bound yf_cells yf_conses yf_lams yf_steps yf_atWork yf_end yf_writtenCount ya_kind ya_up ya_turn ya_depth ya_value ya_below ya_length ya_parameters ya_codes ya_codeCount ya_form ya_colour ya_same ya_one ya_two ya_todo ya_numbered ya_text ya_ofFunction ya_codeEnd ya_instance ya_token ya_env ya_tag ya_cellEnv ya_boundNext ya_step ya_boundNumber ya_boundTag ya_headTag ya_tailTag ya_number ya_boundValue ya_head ya_tail ya_written := by
  obtain ⟨r0, e1, e2, e3⟩ := hex
  refine nm_r ho ?_
  refine y_joinC (N := M) (a := 0) (b := st.getD P 0) (C := C) h74 (by omega) (by omega) (hst P (Nat.le_refl _)) hc (fun sa td g => And.intro (pk_in f 11 (by omega)) ?_) (fun sa td g => absurd ⟨e1, e3⟩ (g r0))
  rw [nI_clamp (n := f) (by omega), hpa]
  refine pk_le P 0 (fun z => ?_) (fun z => ?_)
  · have e : P = 0 := by omega
    subst e
    exact y_gt107 (P := 0) (st := st) hf hpa (by omega) h74 hM (fun z => by omega) hst g ⟨r0, ⟨e1, e3⟩, fun j hj => by omega⟩ (fun sa' td' g' => hK sa' td' (yc_iff g' (fun r => ⟨fun h => ⟨h.1.1, fun j hj => by omega, h.1.2⟩, fun h => ⟨⟨h.1, h.2.2⟩, fun z => by omega⟩⟩)))
  · rw [hx4]
    refine y_joinC (N := M) (a := 72) (b := st.getD 0 0) h74 (by omega) (by omega) (hst 0 (by omega)) g (fun sa' td' g' => ?_) (fun sa' td' g' => absurd ⟨⟨e1, e3⟩, e2 0 z⟩ (g' r0))
    refine y_gt107 (P := P) (st := st) hf hpa hP2 h74 hM hx5 hst g' ⟨r0, ⟨⟨e1, e3⟩, e2 0 z⟩, e2⟩ (fun sa2 td2 g2 => hK sa2 td2 (yc_iff g2 (fun r => ⟨fun h => ⟨h.1.1.1, fun j hj => ?_, h.1.1.2⟩, fun h => ⟨⟨⟨h.1, h.2.2⟩, h.2.1 0 z⟩, fun w => h.2.1 1 (by omega)⟩⟩)))
    by_cases w : j = 0
    · subst w; exact h.1.2
    · have e : j = 1 := by omega
      subst e; exact h.2 (by omega)
section mk
variable {ln P : Nat → Nat} {kN : Nat → Nat → Nat} {vl : Nat → Nat → Int32} {oc sp bd bi : Nat → Nat → Nat} {cod : Nat → List Nat}
theorem iS_dep (hlib : lib ln P kN vl oc sp bd bi cod) {g : Nat} {L : List Nat} (hg : g < 5) (hl : ln g ≠ 0) {r r' : Nat → mt_T} (e : ∀ p, yl_in (ln g) (P g) p → r' p = r p) (h : iS ln P kN vl oc sp bd bi cod g L r) : iS ln P kN vl oc sp bd bi cod g L r' := by
  obtain ⟨l1, l2, l3, _, _, l6, _⟩ := hlib g hg hl
  refine S_dep (P := P g) (by omega) l1 l2 (fun t ht k4 w => ?_) e (fun hs => ?_) h
  · obtain ⟨h', h1, h2, h3, h4⟩ := l6 t ht k4
    rw [h2, nI_clamp (by omega)] at w
    rw [h4, w]
  · have e1 : (List.range (P g)).map (fun j => r' (72 + j)) = (List.range (P g)).map (fun j => r (72 + j)) := List.map_congr_left (fun j hj => e _ (Or.inr (Or.inr ⟨by omega, by have := List.mem_range.mp hj; omega⟩)))
    rw [e1, e 0 (Or.inl ⟨by omega, by omega⟩)]; exact hs
/-- Y goes through number i, as X did -/
theorem y_goThrough {post : Int32 → SY → Prop} {I : List (Nat × List Nat)} {i N0 : Nat} {Sol0 : (Nat → mt_T) → Prop} {c0 : Nat → mt_T} (hlib : lib ln P kN vl oc sp bd bi cod) (h24 : ∀ g, g < 5 → ln g ≤ 24) (hly : ly_ok ln P kN vl oc sp bd cod ya_kind ya_value ya_up ya_turn ya_depth ya_below ya_length ya_parameters ya_codes ya_codeCount)
    (hI : yI I ya_ofFunction ya_codeEnd ya_instance) (h12 : I.length ≤ 12) (hi : i < I.length) (hok : in_ok ln P cod (I.getD i (0, []))) (h74 : 74 ≤ N0) (hm0 : mg_is N0 Sol0 c0) (hp0 : pj_is 74 Sol0 (iS ln P kN vl oc sp bd bi cod (I.getD i (0, [])).1 (I.getD i (0, [])).2))
    (h0 : (∃ p, p < 74 ∧ 14 < (mt_enc (c0 p)).length) ∨ fld (kN (I.getD i (0, [])).1) (vnf vl (I.getD i (0, [])).1) (cq (oc (I.getD i (0, [])).1) (sp (I.getD i (0, [])).1) c0) (ln (I.getD i (0, [])).1) 0 I = none → ∀ pt nm te ma fo sa on tw co td nu tx yof yce yin,
      post 0 (yf_place, pt, nm, te, ma, yf_entry, yf_waiting, yf_values, yf_bound, yf_cells, yf_conses, yf_lams, yf_steps, yf_atWork, yf_end, yf_writtenCount, ya_kind, ya_up, ya_turn, ya_depth, ya_value, ya_below, ya_length, ya_parameters, ya_codes, ya_codeCount, fo, co, sa, on, tw, td, nu, tx, yof, yce, yin, ya_token, ya_env, ya_tag, ya_cellEnv, ya_boundNext, ya_step, ya_boundNumber, ya_boundTag, ya_headTag, ya_tailTag, ya_number, ya_boundValue, ya_head, ya_tail, ya_written))
    (h1 : (∀ p, p < 74 → (mt_enc (c0 p)).length ≤ 14) → ∀ I', fld (kN (I.getD i (0, [])).1) (vnf vl (I.getD i (0, [])).1) (cq (oc (I.getD i (0, [])).1) (sp (I.getD i (0, [])).1) c0) (ln (I.getD i (0, [])).1) 0 I = some I' → ∀ pt nm te fo sa on tw co td nu tx yof yce yin, yI I' yof yce yin → I'.length ≤ 12 →
      post 1 (yf_place, pt, nm, te, (nI I'.length), yf_entry, yf_waiting, yf_values, yf_bound, yf_cells, yf_conses, yf_lams, yf_steps, yf_atWork, yf_end, yf_writtenCount, ya_kind, ya_up, ya_turn, ya_depth, ya_value, ya_below, ya_length, ya_parameters, ya_codes, ya_codeCount, fo, co, sa, on, tw, td, nu, tx, yof, yce, yin, ya_token, ya_env, ya_tag, ya_cellEnv, ya_boundNext, ya_step, ya_boundNumber, ya_boundTag, ya_headTag, ya_tailTag, ya_number, ya_boundValue, ya_head, ya_tail, ya_written)) :
    wpY_goThrough post (yf_place, yf_points, yf_names, yf_textEnd, (nI I.length), yf_entry, yf_waiting, yf_values, yf_bound, yf_cells, yf_conses, yf_lams, yf_steps, yf_atWork, yf_end, yf_writtenCount, ya_kind, ya_up, ya_turn, ya_depth, ya_value, ya_below, ya_length, ya_parameters, ya_codes, ya_codeCount, ya_form, ya_colour, ya_same, ya_one, ya_two, ya_todo, ya_numbered, ya_text, ya_ofFunction, ya_codeEnd, ya_instance, ya_token, ya_env, ya_tag, ya_cellEnv, ya_boundNext, ya_step, ya_boundNumber, ya_boundTag, ya_headTag, ya_tailTag, ya_number, ya_boundValue, ya_head, ya_tail, ya_written) (nI i) := by
  obtain ⟨a1, a2, a3, a4, a5⟩ := hI i hi
  generalize I.getD i (0, []) = x at *
  obtain ⟨k1, k2, k3, k60, ts, k4, k5, k6, k7⟩ := hok
  have hok : in_ok ln P cod x := ⟨k1, k2, k3, k60, ts, k4, k5, k6, k7⟩
  obtain ⟨l1, l2, l3, l4, l5, l6, l7, l8, l9, l10⟩ := hlib x.1 k1 k2
  obtain ⟨y1, y2⟩ := hly x.1 k1
  obtain ⟨y3, y4, y5, y6⟩ := y2 k2
  have n24 := l1.1
  have ci : (nI i).toNatClampNeg = i := nI_clamp (by omega)
  obtain ⟨rs, rs1, rs2⟩ := in_sol hlib hok
  refine And.intro (pk_in i 13 (by omega)) (nm_r (e' := nI x.1) (by rw [ci, a2]) (y_begin (fun fo sa hg => And.intro (pk_in i 13 (by omega)) ?_)))
  rw [ci, a3, show (50 : Int32) * nI i = nI (50 * i) from pk_mul 50 i, nI_add]
  refine y_read (fl := true) (x3 := 1) (B := 74) (F := 50 * i) (ts := ts) (Lc := x.2) (Nat.le_refl _) (by omega) rfl k4 k5 a4 k60 (Or.inr ⟨rfl, by omega, fun k hk => (a5 k hk).1⟩) hg (fun N' fo' sa' on' tw' td' nu' K' L' R' rt' ds' tg st n1 n2 g' low' tl' rv' rk' mp' => ?_)
  have hst : st.length = P x.1 + 1 := by rw [← k6, ← mp', List.length_map]
  have hrk : ∀ q, q ≤ P x.1 → td' (1000 + (P x.1 - q)) = nI (st.getD q 0) ∧ st.getD q 0 < N' := by
    intro q hq
    refine ⟨?_, (rk'.1 _ (gd_mem st q (by omega))).2⟩
    have := rk'.2 q (by omega)
    rw [hst] at this
    have e : P x.1 + 1 - 1 - q = P x.1 - q := by omega
    rw [e] at this; exact this
  have hF := rd_st (P := P x.1) (b := 0) (a := fun j => 72 + j) (C := fun _ => True) (F := fun r => gr_sat N' K' L' R' r ∧ (∀ j, j < P x.1 → r (72 + j) = r (st.getD j 0)) ∧ r 0 = r (st.getD (P x.1) 0)) hg (fun r => ⟨fun _ => trivial, fun _ => ys_init r⟩) n1 k4 k5 k6 low' tl' rv' rk'.1 mp' (fun j hj => by omega) (by omega) (by omega) (fun r => Iff.rfl)
  obtain ⟨rf, _, _, rf3⟩ := hF.2 rs rs1 trivial rs2.1
  have e1 : ((1000 : Int32) + nI st.length) - 1 = nI (1000 + P x.1) := by rw [ix_th, hst]; exact nI_pred (1000 + P x.1)
  obtain ⟨o1, o2⟩ := hrk (P x.1) (Nat.le_refl _)
  obtain ⟨p1, p2⟩ := hrk 0 (by omega)
  have ePP : 1000 + (P x.1 - P x.1) = 1000 := by omega
  have eP0 : 1000 + (P x.1 - 0) = 1000 + P x.1 := by omega
  rw [ePP] at o1
  rw [eP0] at p1
  -- behind the joins
  have fin : ∀ sa td, yc_ok N' fo' sa on' tw' (fun r => gr_sat N' K' L' R' r ∧ (∀ j, j < P x.1 → r (72 + j) = r (st.getD j 0)) ∧ r 0 = r (st.getD (P x.1) 0)) → wY_goThrough_127 post (nI x.1) yf_place (nI N') yf_names yf_textEnd (nI I.length) yf_entry yf_waiting yf_values yf_bound yf_cells yf_conses yf_lams yf_steps yf_atWork yf_end yf_writtenCount ya_kind ya_up ya_turn ya_depth ya_value ya_below ya_length ya_parameters ya_codes ya_codeCount fo' ya_colour sa on' tw' td nu' ya_text ya_ofFunction ya_codeEnd ya_instance ya_token ya_env ya_tag ya_cellEnv ya_boundNext ya_step ya_boundNumber ya_boundTag ya_headTag ya_tailTag ya_number ya_boundValue ya_head ya_tail ya_written := by
    intro sa td hyc
    obtain ⟨K2, L2, R2, rt2, ds2, g2, s2⟩ := hyc
    unfold wY_goThrough_127
    refine y_infer (yf_points := nI N') (row := x.1) (f := x.1) (n := ln x.1) (N := N') (S0 := fun r => sc_inst x.2 ((List.range (P x.1)).map (fun j => r (72 + j)) ++ [r 0])) (cod := cod) (by omega) k1 y1 l1 y4 (lib_yn hlib hly k1 k2) (fun N fo sa on tw co td nu K L R rt ds c h74' hN hg hm hv hp => ?_) (fun t N fo sa on tw co td nu ht _ e2 => ?_) n1 (by omega) g2 ?_
    · have hw := yw_of hg hm hv
      refine y_isLarge (row := x.1) (n := ln x.1) (P := P x.1) (c := c) h74' (by omega) (by omega) n24 l3 y1 y3 hw (fun n _ => hm.1 n) (fun te nm td nu tx hbig => br_f n1_0 ?_) (fun te nm td nu tx hsm => br_t rfl (Exists.intro (ln x.1 + 1) ?_))
      · refine h0 (Or.inl ?_) _ nm te _ fo sa on tw co td nu tx _ _ _
        obtain ⟨p, q1, q2⟩ := hbig
        exact ⟨p, q1, by rw [pj_len (B := 74) h74 h74' hm0 hp0 hm hp p q1]; exact q2⟩
      · have h14 : ∀ p, p < 74 → (mt_enc (c p)).length ≤ 14 := by
          intro p hp74
          by_cases z : yl_in (ln x.1) (P x.1) p
          · exact hsm p hp74 z
          · have := un_1 h74' hm hp (fun r r' e h => iS_dep hlib k1 k2 e h) hp74 z
            omega
        have h14' : ∀ p, p < 74 → (mt_enc (c0 p)).length ≤ 14 := fun p hp74 => by rw [pj_len (B := 74) h74 h74' hm0 hp0 hm hp p hp74]; exact h14 p hp74
        have hbn : ∀ t j, t < ln x.1 → kN x.1 t = 4 → j < oc x.1 t → jp (sp x.1) t j < ln x.1 := fun t j ht _ hj => (bw_in l1.2.1 ht hj).2.2
        refine y_gt148 (RS := fld (kN x.1) (vnf vl x.1) (cq (oc x.1) (sp x.1) c0) (ln x.1) 0 I) (n := ln x.1) (kN := kN x.1) (vN := vnf vl x.1) (oc := oc x.1) (sp := sp x.1) (c := c) (qx := cq (oc x.1) (sp x.1) c0) k1 n24 y1 h74' (by omega) (fun t ht => ?_) hw (fun p hp24 _ => h14 p (by omega)) hbn (fun I' te' td' tx' yof yce yin e1 x1 x2 => h1 h14' I' e1 _ nm te' fo sa on tw co td' nu tx' yof yce yin x1 x2) (fun te' ma' td' tx' yof yce yin e0 => h0 (Or.inr e0) _ nm te' ma' fo sa on tw co td' nu tx' yof yce yin) (ln x.1) 0 (ln x.1 + 1) I te td tx _ _ _ (by omega) (by omega) hI h12 rfl
        obtain ⟨z1, z2, z3, z4, _⟩ := y4 t ht
        refine ⟨z1, (l1.2.2.2.2 t ht).1, fun kk => ?_⟩
        obtain ⟨g, g1, g2, g3, g4⟩ := l6 t ht kk
        have ev : vnf vl x.1 t = g := by unfold vnf; rw [g2, nI_clamp (by omega)]
        rw [ev]
        refine ⟨g1, by rw [z2, g2], by rw [g4]; exact (hlib g g1 g3).2.2.1, by rw [g4]; exact ((hly g g1).2 g3).1, fun j hj => ⟨z4 j hj, by have := hbn t j ht kk hj; omega⟩, ?_⟩
        unfold cq
        rw [← cl_go, ← cl_go (mt_encs ((ca_st (jp (sp x.1) t) t (oc x.1 t)).map c))]
        exact congrArg cl_0 (pj_codes h74 h74' hm0 hp0 hm hp _ (fun n hn => by have := ca_lt (B := ln x.1) (fun j hj => hbn t j ht kk hj) ht n hn; omega))
    · exact absurd (S_mono rs2 (by omega)) (e2 rs rs1)
    · have hpj := pj_y (N := 74) (C := fun _ => True) (S := fun _ => True) (Nat.le_refl _) ⟨fun _ _ _ => trivial, fun r hr _ => ⟨r, hr, trivial, fun _ _ => rfl⟩⟩ hF (fun r r' e h => ?_)
      · exact ⟨fun r hr h => ((hpj.1 r hr ((s2 r).mp h)).2), fun r hr h => by obtain ⟨r', w1, w2, w3⟩ := hpj.2 r hr ⟨trivial, h⟩; exact ⟨r', w1, (s2 r').mpr w2, w3⟩⟩
      · have e1 : (List.range (P x.1)).map (fun j => r' (72 + j)) = (List.range (P x.1)).map (fun j => r (72 + j)) := List.map_congr_left (fun j hj => e _ (by have := List.mem_range.mp hj; omega))
        show sc_inst x.2 _
        rw [e1, e 0 (by omega)]; exact h
  rw [e1]
  refine And.intro (pk_in (1000 + P x.1) 1500 (by omega)) (nm_r (e' := nI (st.getD 0 0)) (by rw [nI_clamp (by omega)]; exact p1) ?_)
  have hcy := yc_of g'
  have hex : ∃ r, gr_sat N' K' L' R' r ∧ (∀ j, j < P x.1 → r (72 + j) = r (st.getD j 0)) ∧ r 0 = r (st.getD (P x.1) 0) := ⟨rf, rf3⟩
  rw [hst]
  refine pk_le (P x.1 + 1) 1 (fun z => ?_) (fun z => And.intro ?_ ?_)
  · exact y_gt67 (P := P x.1) (st := st) k1 y3 l3 n1 (by omega) rfl (fun z => by omega) o1 (fun q hq => (hrk q hq).2) hcy hex fin
  · refine pk_in (1000 + (P x.1 - 1)) 1500 (by omega) ?_
    rw [ix_th, show (2 : Int32) = nI 2 from rfl, pk_sub (by omega)]
    exact congrArg nI (by omega)
  · have e2 : ((1000 : Int32) + nI (P x.1 + 1)) - 2 = nI (1000 + (P x.1 - 1)) := by
      rw [ix_th, show (2 : Int32) = nI 2 from rfl, pk_sub (by omega)]
      exact congrArg nI (by omega)
    rw [e2, nI_clamp (n := 1000 + (P x.1 - 1)) (by omega), (hrk 1 (by omega)).1]
    exact y_gt67 (P := P x.1) (st := st) k1 y3 l3 n1 (by omega) rfl (fun z => rfl) o1 (fun q hq => (hrk q hq).2) hcy hex fin
end mk

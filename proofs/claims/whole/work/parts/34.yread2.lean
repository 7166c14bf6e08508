variable {yf_place yf_points yf_names yf_textEnd yf_made yf_entry yf_waiting yf_values yf_bound yf_cells yf_conses yf_lams yf_steps yf_atWork yf_end yf_writtenCount : Int32} {ya_kind ya_up ya_turn ya_depth ya_value ya_below ya_length ya_parameters ya_codes ya_codeCount ya_form ya_colour ya_same ya_one ya_two ya_todo ya_numbered ya_text ya_ofFunction ya_codeEnd ya_instance ya_token ya_env ya_tag ya_cellEnv ya_boundNext ya_step ya_boundNumber ya_boundTag ya_headTag ya_tailTag ya_number ya_boundValue ya_head ya_tail ya_written : Nat → Int32}
theorem dr_c {L : List Nat} {i : Nat} (h : i < L.length) : L.drop i = L.getD i 0 :: L.drop (i + 1) := by
  rw [List.drop_eq_getElem_cons h]
  simp [List.getD_eq_getElem?_getD, List.getElem?_eq_getElem h]
theorem dr_c' {L : List Nat} {i c : Nat} (hc : L.getD i 0 = c) (h : i < L.length) : L.drop i = c :: L.drop (i + 1) := by rw [← hc]; exact dr_c h
theorem lt_m1 {F : Nat} (h : F < 2 ^ 31) : nI F + (-1) < nI F := by
  cases F with
  | zero => decide
  | succ F => rw [pk_m1]; exact nI_lt (by omega) h
theorem ix_th (m : Nat) : (1000 : Int32) + nI m = nI (1000 + m) := nI_add 1000 m
theorem map_2 {α β : Type} {f : α → β} {st : List α} {a b : β} {l : List β} (h : st.map f = a :: b :: l) : ∃ x y st', st = x :: y :: st' ∧ f x = a ∧ f y = b ∧ st'.map f = l := by
  cases st with
  | nil => simp at h
  | cons x st =>
    cases st with
    | nil => simp at h
    | cons y st =>
      simp only [List.map_cons, List.cons.injEq] at h
      exact ⟨x, y, st, rfl, h.1, h.2.1, h.2.2⟩
theorem map_1 {α β : Type} {f : α → β} {st : List α} {a : β} {l : List β} (h : st.map f = a :: l) : ∃ x st', st = x :: st' ∧ f x = a ∧ st'.map f = l := by
  cases st with
  | nil => simp at h
  | cons x st =>
    simp only [List.map_cons, List.cons.injEq] at h
    exact ⟨x, st, rfl, h.1, h.2⟩
theorem put_map {st : List Nat} {tg : Nat → mt_T} {N B : Nat} {u : mt_T} (h : ∀ n ∈ st, B ≤ n ∧ n < N) : st.map (gr_put tg N u) = st.map tg := List.map_congr_left (fun n hn => gr_put_ne (by have := (h n hn).2; omega))
theorem y_read32 {post : Int32 → SY → Prop} {B F : Nat} {fl : Bool} {x3 : Int32} {ts : List mt_T} {Lc : List Nat} {K : Nat → Int32} {L R : Nat → Nat} (h74 : 74 ≤ B) (hB : B + Lc.length ≤ 790) (hx3 : x3 = if fl then 1 else 0) (hw : ∀ t ∈ ts, mt_wf t) (hL : mt_encs ts = Lc) (hl42 : Lc.length ≤ 42)
    (hc60 : ∀ k, k < Lc.length → Lc.getD k 0 < 60) (hsrc : (fl = false ∧ F + Lc.length ≤ 240 ∧ ∀ k, k < Lc.length → ya_codes (F + k) = nI (Lc.getD k 0)) ∨ (fl = true ∧ F + Lc.length ≤ 650 ∧ ∀ k, k < Lc.length → ya_instance (F + k) = nI (Lc.getD k 0)))
    (hP : ∀ N' fo' sa' on' tw' td' nu' K' L' R' rt' ds' tg st, B ≤ N' → N' ≤ B + Lc.length → yg_ok N' fo' sa' on' tw' K' L' R' rt' ds' → (∀ n, n < B → K' n = K n ∧ L' n = L n ∧ R' n = R n) → tl_is B N' K' L' R' tg → rv_ok B N' K' tg nu' → rk_ok B N' td' st → st.map tg = ts →
      post (nI st.length) (yf_place, (nI N'), yf_names, yf_textEnd, yf_made, yf_entry, yf_waiting, yf_values, yf_bound, yf_cells, yf_conses, yf_lams, yf_steps, yf_atWork, yf_end, yf_writtenCount, ya_kind, ya_up, ya_turn, ya_depth, ya_value, ya_below, ya_length, ya_parameters, ya_codes, ya_codeCount, fo', ya_colour, sa', on', tw', td', nu', ya_text, ya_ofFunction, ya_codeEnd, ya_instance, ya_token, ya_env, ya_tag, ya_cellEnv, ya_boundNext, ya_step, ya_boundNumber, ya_boundTag, ya_headTag, ya_tailTag, ya_number, ya_boundValue, ya_head, ya_tail, ya_written)) :
    ∀ i fu N fo sa on tw td nu K' L' R' rt ds tg st, i ≤ Lc.length → i < fu → B ≤ N → N + i ≤ B + Lc.length → yg_ok N fo sa on tw K' L' R' rt ds → (∀ n, n < B → K' n = K n ∧ L' n = L n ∧ R' n = R n) → tl_is B N K' L' R' tg → rv_ok B N K' tg nu → rk_ok B N td st →
      (∀ n ∈ st, mt_wf (tg n)) → mt_encs (st.map tg) = Lc.drop i → st.length + i ≤ Lc.length →
      wY_read_32 post (nI F) x3 fu (nI st.length) (nI (F + i) + (-1)) yf_place (nI N) yf_names yf_textEnd yf_made yf_entry yf_waiting yf_values yf_bound yf_cells yf_conses yf_lams yf_steps yf_atWork yf_end yf_writtenCount ya_kind ya_up ya_turn ya_depth ya_value ya_below ya_length ya_parameters ya_codes ya_codeCount fo ya_colour sa on tw td nu ya_text ya_ofFunction ya_codeEnd ya_instance ya_token ya_env ya_tag ya_cellEnv ya_boundNext ya_step ya_boundNumber ya_boundTag ya_headTag ya_tailTag ya_number ya_boundValue ya_head ya_tail ya_written := by
  intro i
  induction i with
  | zero =>
    intro fu N fo sa on tw td nu K' L' R' rt ds tg st hi hfu hBN hNl hg hlow htl hrv hrk hwst hen hsl
    obtain ⟨fu, rfl⟩ : ∃ g, fu = g + 1 := ⟨fu - 1, by omega⟩
    have hF : F < 2 ^ 31 := by rcases hsrc with ⟨_, q, _⟩ | ⟨_, q, _⟩ <;> omega
    refine br_t (lt_m1 hF) ?_
    have e : st.map tg = ts := mt_decs _ _ (by intro t ht; obtain ⟨n, hn, rfl⟩ := List.mem_map.mp ht; exact hwst n hn) hw (by rw [hen, hL]; rfl)
    exact hP N fo sa on tw td nu K' L' R' rt ds tg st hBN (by omega) hg hlow htl hrv hrk e
  | succ i ih =>
    intro fu N fo sa on tw td nu K' L' R' rt ds tg st hi hfu hBN hNl hg hlow htl hrv hrk hwst hen hsl
    obtain ⟨fu, rfl⟩ : ∃ g, fu = g + 1 := ⟨fu - 1, by omega⟩
    have hF : F + i < 650 := by rcases hsrc with ⟨_, q, _⟩ | ⟨_, q, _⟩ <;> omega
    have ex5 : nI (F + (i + 1)) + (-1) = nI (F + i) := pk_m1 (F + i)
    rw [ex5]
    obtain ⟨us, hus, eus⟩ := sx_all hw i (by rw [hL]; omega)
    rw [hL, dr_c (by omega)] at eus
    obtain ⟨u, rest, eu, hu, ws, hws, ews, hcase⟩ := sx_1 us hus _ _ eus
    have hwu : mt_wf u := hus u (by rw [eu]; simp)
    have ewst : st.map tg = ws := mt_decs _ _ (by intro t ht; obtain ⟨n, hn, rfl⟩ := List.mem_map.mp ht; exact hwst n hn) hws (by rw [hen, ews])
    have hc := hc60 i (by omega)
    generalize hcd : Lc.getD i 0 = c at *
    -- a node is pushed
    have push : ∀ (N2 : Nat) (fo2 sa2 on2 tw2 nu2 K2 : Nat → Int32) (L2 R2 rt2 ds2 : Nat → Nat) (tg2 : Nat → mt_T) (m : Nat) (st2 : List Nat), B ≤ N2 → N2 + i ≤ B + Lc.length → yg_ok N2 fo2 sa2 on2 tw2 K2 L2 R2 rt2 ds2 → (∀ n, n < B → K2 n = K n ∧ L2 n = L n ∧ R2 n = R n) →
        tl_is B N2 K2 L2 R2 tg2 → rv_ok B N2 K2 tg2 nu2 → rk_ok B N2 td st2 → (B ≤ m ∧ m < N2) → tg2 m = u → st2.map tg2 = rest → (∀ t ∈ rest, mt_wf t) → st2.length + (i + 1) ≤ Lc.length →
        wY_read_211 post (wY_read_32 post (nI F) x3 fu) (nI F) x3 (nI st2.length) (nI (F + i)) (nI m) yf_place (nI N2) yf_names yf_textEnd yf_made yf_entry yf_waiting yf_values yf_bound yf_cells yf_conses yf_lams yf_steps yf_atWork yf_end yf_writtenCount ya_kind ya_up ya_turn ya_depth ya_value ya_below ya_length ya_parameters ya_codes ya_codeCount fo2 ya_colour sa2 on2 tw2 td nu2 ya_text ya_ofFunction ya_codeEnd ya_instance ya_token ya_env ya_tag ya_cellEnv ya_boundNext ya_step ya_boundNumber ya_boundTag ya_headTag ya_tailTag ya_number ya_boundValue ya_head ya_tail ya_written := by
      intro N2 fo2 sa2 on2 tw2 nu2 K2 L2 R2 rt2 ds2 tg2 m st2 q1 q2 q3 q4 q5 q6 q7 q8 q9 q10 q11 q12
      refine nm_r (nI_1 _) (And.intro (pk_in (1000 + st2.length) 1500 (by omega) (ix_th _)) (nm_r (e' := upd td (1000 + st2.length) (nI m)) (by rw [ix_th, nI_clamp (by omega), nr_s (by omega)]) (nm_e ?_)))
      refine ih fu N2 fo2 sa2 on2 tw2 _ nu2 K2 L2 R2 rt2 ds2 tg2 (m :: st2) (by omega) (by omega) q1 q2 q3 q4 q5 q6 (rk_push q7 q8) (fun n hn => ?_) ?_ (by simp only [List.length_cons]; omega)
      · simp only [List.mem_cons] at hn
        rcases hn with rfl | hn
        · rw [q9]; exact hwu
        · exact q11 _ (by rw [← q10]; exact List.mem_map.mpr ⟨n, hn, rfl⟩)
      · rw [List.map_cons, q9, q10, ← eu, eus, dr_c' hcd (by omega)]
    have hwr : ∀ t ∈ rest, mt_wf t := fun t ht => hus t (by rw [eu]; simp [ht])
    have low1 : ∀ (d : Int32) (a b : Nat), ∀ n, n < B → upd K' N d n = K n ∧ updN L' N a n = L n ∧ updN R' N b n = R n := by
      intro d a b n hn
      rw [pk_un (by omega), uN_n (by omega), uN_n (by omega)]; exact hlow n hn
    have all : wY_read_59 post (wY_read_32 post (nI F) x3 fu) (nI F) x3 (nI st.length) (nI (F + i)) (nI c) yf_place (nI N) yf_names yf_textEnd yf_made yf_entry yf_waiting yf_values yf_bound yf_cells yf_conses yf_lams yf_steps yf_atWork yf_end yf_writtenCount ya_kind ya_up ya_turn ya_depth ya_value ya_below ya_length ya_parameters ya_codes ya_codeCount fo ya_colour sa on tw td nu ya_text ya_ofFunction ya_codeEnd ya_instance ya_token ya_env ya_tag ya_cellEnv ya_boundNext ya_step ya_boundNumber ya_boundTag ya_headTag ya_tailTag ya_number ya_boundValue ya_head ya_tail ya_written := by
      rcases hcase with ⟨⟨n, un⟩, hr⟩ | ⟨a, un, hr⟩ | ⟨a, b, c24, un, hr⟩
      · subst un
        simp only [mt_hd] at hu
        subst hu
        rw [hr] at ewst
        rcases hwu with z | z | z
        · subst z
          obtain ⟨rt', ds', g', _⟩ := yg_new hg (by omega) 0 0 0 kd_0 n0_5 (fun z => absurd z (by unfold gr_lf; decide)) (fun z => absurd z (by unfold gr_rg; decide))
          refine br_t (by decide) (br_f (by decide) (y_point (a := 0) (b := 0) (c := 0) (by omega) kd_0 n0_5 rfl (by omega) (by omega) ?_))
          exact push (N + 1) _ _ _ _ _ _ _ _ rt' ds' (gr_put tg N (.leaf 0)) N st (by omega) (by omega) g' (low1 _ _ _) (tl_new htl 0 0 0 _ mt_wf0 (Or.inr (Or.inl ⟨rfl, rfl⟩))) (rv_mono hrv hBN (by decide)) (rk_mono hrk (by omega)) ⟨hBN, by omega⟩ gr_put_eq (by rw [put_map hrk.1]; exact ewst) hwr (by omega)
        · subst z
          obtain ⟨rt', ds', g', _⟩ := yg_new hg (by omega) 1 0 0 kd_1 n1_5 (fun z => absurd z (by unfold gr_lf; decide)) (fun z => absurd z (by unfold gr_rg; decide))
          refine br_t (by decide) (br_f (by decide) (y_point (a := 0) (b := 0) (c := 1) (by omega) kd_1 n1_5 rfl (by omega) (by omega) ?_))
          exact push (N + 1) _ _ _ _ _ _ _ _ rt' ds' (gr_put tg N (.leaf 1)) N st (by omega) (by omega) g' (low1 _ _ _) (tl_new htl 1 0 0 _ mt_wf1 (Or.inr (Or.inr (Or.inl ⟨rfl, rfl⟩)))) (rv_mono hrv hBN (by decide)) (rk_mono hrk (by omega)) ⟨hBN, by omega⟩ gr_put_eq (by rw [put_map hrk.1]; exact ewst) hwr (by omega)
        · obtain ⟨v, rfl⟩ : ∃ v, n = 10 + v := ⟨n - 10, by omega⟩
          have ev : nI (10 + v) - 10 = nI v := by
            have : (10 : Int32) = nI 10 := rfl
            rw [this, pk_sub (by omega)]; exact congrArg nI (by omega)
          have cv : (nI v).toNatClampNeg = v := nI_clamp (by omega)
          refine br_f (nI_ge (b := 10 + v) (a := 9) (by omega) (by omega)) (And.intro (pk_in v 50 (by omega) ev) ?_)
          rw [ev, cv]
          rcases hrv.1 v (by omega) with q | ⟨m, m1, m2, m3, m4, m5⟩
          · refine br_f (by rw [q]; decide) ?_
            obtain ⟨rt', ds', g', _⟩ := yg_new hg (by omega) 10 0 0 kd_10 n10_5 (fun z => absurd z nlf10) (fun z => absurd z nrg10)
            refine y_point (a := 0) (b := 0) (c := 10) (by omega) kd_10 n10_5 rfl (by omega) (by omega) (And.intro (pk_in v 50 (by omega)) (nm_r (e' := upd nu v (nI N)) (by rw [nr_s (by omega)]) (And.intro (pk_in v 50 (by omega) ev) (nm_r (e' := nI N) (by rw [ev, cv, pk_us]) ?_))))
            exact push (N + 1) _ _ _ _ _ _ _ _ rt' ds' (gr_put tg N (.leaf (10 + v))) N st (by omega) (by omega) g' (low1 _ _ _) (tl_new htl 10 0 0 _ (mt_wfv v) (Or.inl ⟨rfl, v, rfl⟩)) (rv_new hrv hBN (by omega) (by omega) q) (rk_mono hrk (by omega)) ⟨hBN, by omega⟩ gr_put_eq (by rw [put_map hrk.1]; exact ewst) hwr (by omega)
          · refine br_t (by rw [m1]; exact nI_pos' (by omega)) (And.intro (pk_in v 50 (by omega) ev) (nm_r (e' := nI m) (by rw [ev, cv]; exact m1) ?_))
            exact push N fo sa on tw nu K' L' R' rt ds tg m st hBN (by omega) hg hlow htl hrv hrk ⟨m2, m3⟩ m5 ewst hwr (by omega)
      · subst un
        simp only [mt_hd] at hu
        subst hu
        rw [hr] at ewst
        obtain ⟨m1, st', e1, e2, e3⟩ := map_1 ewst
        subst e1
        obtain ⟨p1, p2, p3⟩ := rk_pop hrk
        simp only [List.length_cons] at hsl ⊢
        have hsm : nI (st'.length + 1) + (-1) = nI st'.length := pk_m1 _
        refine br_t (by decide) (br_t (by decide) (br_t rfl (nm_r hsm (And.intro (pk_in (1000 + st'.length) 1500 (by omega) (ix_th _)) ?_))))
        rw [ix_th, nI_clamp (by omega), p1]
        obtain ⟨rt', ds', g', _⟩ := yg_new hg (by omega) 3 m1 0 kd_3 n3_5 (fun _ => by omega) (fun z => absurd z nrg3)
        refine y_point (b := 0) (c := 3) (by omega) kd_3 n3_5 rfl (by omega) (by omega) ?_
        refine push (N + 1) _ _ _ _ _ _ _ _ rt' ds' (gr_put tg N (.branch 3 a (.leaf 0))) N st' (by omega) (by omega) g' (low1 _ _ _) (tl_new htl 3 m1 0 _ hwu (Or.inr (Or.inr (Or.inr (Or.inl ⟨rfl, p2.1, p2.2, by rw [e2]⟩))))) (rv_mono hrv hBN (by decide)) (rk_mono p3 (by omega)) ⟨hBN, by omega⟩ gr_put_eq (by rw [put_map p3.1]; exact e3) hwr (by omega)
      · subst un
        rw [hr] at ewst
        obtain ⟨m1, m2, st', e1, e2, e2', e3⟩ := map_2 ewst
        subst e1
        obtain ⟨p1, p2, p3⟩ := rk_pop hrk
        obtain ⟨q1, q2, q3⟩ := rk_pop p3
        simp only [List.length_cons] at hsl p1 ⊢
        have hsm : nI (st'.length + 1 + 1) + (-1) = nI (st'.length + 1) := pk_m1 _
        have hsm2 : nI (st'.length + 1) + (-1) = nI st'.length := pk_m1 _
        have fin : ∀ cc : Int32, gr_kd cc → cc ≠ 5 → cc ≠ 10 → nI c = yf cc → (cc = 2 ∧ c = 2 ∨ cc = 4 ∧ c = 4) →
            wpY_point (fun r_15 u => match u with | (yf_place, yf_points, yf_names, yf_textEnd, yf_made, yf_entry, yf_waiting, yf_values, yf_bound, yf_cells, yf_conses, yf_lams, yf_steps, yf_atWork, yf_end, yf_writtenCount, ya_kind, ya_up, ya_turn, ya_depth, ya_value, ya_below, ya_length, ya_parameters, ya_codes, ya_codeCount, ya_form, ya_colour, ya_same, ya_one, ya_two, ya_todo, ya_numbered, ya_text, ya_ofFunction, ya_codeEnd, ya_instance, ya_token, ya_env, ya_tag, ya_cellEnv, ya_boundNext, ya_step, ya_boundNumber, ya_boundTag, ya_headTag, ya_tailTag, ya_number, ya_boundValue, ya_head, ya_tail, ya_written) => wY_read_211 post (wY_read_32 post (nI F) x3 fu) (nI F) x3 (nI st'.length) (nI (F + i)) r_15 yf_place yf_points yf_names yf_textEnd yf_made yf_entry yf_waiting yf_values yf_bound yf_cells yf_conses yf_lams yf_steps yf_atWork yf_end yf_writtenCount ya_kind ya_up ya_turn ya_depth ya_value ya_below ya_length ya_parameters ya_codes ya_codeCount ya_form ya_colour ya_same ya_one ya_two ya_todo ya_numbered ya_text ya_ofFunction ya_codeEnd ya_instance ya_token ya_env ya_tag ya_cellEnv ya_boundNext ya_step ya_boundNumber ya_boundTag ya_headTag ya_tailTag ya_number ya_boundValue ya_head ya_tail ya_written) (yf_place, (nI N), yf_names, yf_textEnd, yf_made, yf_entry, yf_waiting, yf_values, yf_bound, yf_cells, yf_conses, yf_lams, yf_steps, yf_atWork, yf_end, yf_writtenCount, ya_kind, ya_up, ya_turn, ya_depth, ya_value, ya_below, ya_length, ya_parameters, ya_codes, ya_codeCount, fo, ya_colour, sa, on, tw, td, nu, ya_text, ya_ofFunction, ya_codeEnd, ya_instance, ya_token, ya_env, ya_tag, ya_cellEnv, ya_boundNext, ya_step, ya_boundNumber, ya_boundTag, ya_headTag, ya_tailTag, ya_number, ya_boundValue, ya_head, ya_tail, ya_written) (nI c) (nI m1) (nI m2) := by
          intro cc k1 k2 k3 k4 k5
          obtain ⟨rt', ds', g', _⟩ := yg_new hg (by omega) cc m1 m2 k1 k2 (fun _ => by omega) (fun _ => by omega)
          refine y_point (c := cc) (by omega) k1 k2 k4 (by omega) (by omega) ?_
          refine push (N + 1) _ _ _ _ _ _ _ _ rt' ds' (gr_put tg N (.branch c a b)) N st' (by omega) (by omega) g' (low1 _ _ _) (tl_new htl cc m1 m2 _ hwu ?_) (rv_mono hrv hBN k3) (rk_mono q3 (by omega)) ⟨hBN, by omega⟩ gr_put_eq (by rw [put_map q3.1]; exact e3) hwr (by omega)
          rcases k5 with ⟨z, z'⟩ | ⟨z, z'⟩
          · exact Or.inr (Or.inr (Or.inr (Or.inr (Or.inl ⟨z, p2.1, p2.2, q2.1, q2.2, by rw [e2, e2', z']⟩))))
          · exact Or.inr (Or.inr (Or.inr (Or.inr (Or.inr ⟨z, p2.1, p2.2, q2.1, q2.2, by rw [e2, e2', z']⟩))))
        refine br_t (nI_le (b := 9) (by omega) (by omega)) (br_t (nI_le (a := 2) (by omega) (by omega)) (br_f (fun z => by have := (nI_eq (b := 3) (by omega) (by omega)).mp z; omega) (nm_r hsm (And.intro (pk_in (1000 + (st'.length + 1)) 1500 (by omega) (ix_th _)) (nm_r (e' := nI m1) (by rw [ix_th, nI_clamp (by omega)]; exact p1) (nm_r hsm2 (And.intro (pk_in (1000 + st'.length) 1500 (by omega) (ix_th _)) (nm_r (e' := nI m2) (by rw [ix_th, nI_clamp (by omega)]; exact q1) ?_))))))))
        rcases c24 with z | z
        · exact fin 2 kd_2 n2_5 (by decide) (by rw [z]; rfl) (Or.inl ⟨rfl, z⟩)
        · exact fin 4 kd_4 n4_5 (by decide) (by rw [z]; rfl) (Or.inr ⟨rfl, z⟩)
    refine br_f (nI_nlt (by omega) (by omega)) ?_
    rcases hsrc with ⟨f1, f2, f3⟩ | ⟨f1, f2, f3⟩
    · subst f1; subst hx3
      refine br_t rfl (And.intro (pk_in (F + i) 240 (by omega)) ?_)
      rw [nI_clamp (by omega), f3 i (by omega), hcd]; exact all
    · subst f1; subst hx3
      refine br_f (by decide) (And.intro (pk_in (F + i) 650 (by omega)) ?_)
      rw [nI_clamp (by omega), f3 i (by omega), hcd]; exact all

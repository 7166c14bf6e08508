variable {yf_place yf_points yf_names yf_textEnd yf_made yf_entry yf_waiting yf_values yf_bound yf_cells yf_conses yf_lams yf_steps yf_atWork yf_end yf_writtenCount : Int32} {ya_kind ya_up ya_turn ya_depth ya_value ya_below ya_length ya_parameters ya_codes ya_codeCount ya_form ya_colour ya_same ya_one ya_two ya_todo ya_numbered ya_text ya_ofFunction ya_codeEnd ya_instance ya_token ya_env ya_tag ya_cellEnv ya_boundNext ya_step ya_boundNumber ya_boundTag ya_headTag ya_tailTag ya_number ya_boundValue ya_head ya_tail ya_written : Nat → Int32}
theorem y_called22 {post : Int32 → SY → Prop} {N M row t P : Nat} {sp : Nat → Nat} {C : (Nat → mt_T) → Prop} {w : Nat} {Lc : List Nat} (h74 : 74 ≤ N) (hN : N ≤ 800) (hNM : N ≤ M) (hrow : row ≤ 10) (ht : t < 24) (hP2 : P ≤ 2) (hpar : ya_parameters row = nI P)
    (hbe : ∀ j, j < P → ya_below (72 * row + 3 * t + j) = nI (jp sp t j) ∧ jp sp t j < 24)
    (hpo : ys_post post N M yf_place (nI N) yf_names yf_textEnd yf_made yf_entry yf_waiting yf_values yf_bound yf_cells yf_conses yf_lams yf_steps yf_atWork yf_end yf_writtenCount ya_kind ya_up ya_turn ya_depth ya_value ya_below ya_length ya_parameters ya_codes ya_codeCount ya_form ya_colour ya_same ya_one ya_two ya_todo ya_numbered ya_text ya_ofFunction ya_codeEnd ya_instance ya_token ya_env ya_tag ya_cellEnv ya_boundNext ya_step ya_boundNumber ya_boundTag ya_headTag ya_tailTag ya_number ya_boundValue ya_head ya_tail ya_written C (ru_k 4 t (jp sp t) w true P Lc)) :
    ∀ q p fu sa td, p + q = P → q < fu → yc_ok N ya_form sa ya_one ya_two (fun r => C r ∧ ∀ j, j < p → r (jp sp t j) = r (72 + j)) →
      wY_called_22 post (nI row) (nI t) fu (nI p) yf_place (nI N) yf_names yf_textEnd yf_made yf_entry yf_waiting yf_values yf_bound yf_cells yf_conses yf_lams yf_steps yf_atWork yf_end yf_writtenCount ya_kind ya_up ya_turn ya_depth ya_value ya_below ya_length ya_parameters ya_codes ya_codeCount ya_form ya_colour sa ya_one ya_two td ya_numbered ya_text ya_ofFunction ya_codeEnd ya_instance ya_token ya_env ya_tag ya_cellEnv ya_boundNext ya_step ya_boundNumber ya_boundTag ya_headTag ya_tailTag ya_number ya_boundValue ya_head ya_tail ya_written := by
  have hF : ys_ok N C (fun r => C r ∧ (∀ j, j < P → r (jp sp t j) = r (72 + j)) ∧ r t = r 0) (ru_k 4 t (jp sp t) w true P Lc) :=
    ⟨fun r hw h => h, fun r hw hc hr => ⟨r, hw, fun _ _ => rfl, hc, hr⟩⟩
  intro q
  induction q with
  | zero =>
    intro p fu sa td hp hfu hg
    obtain ⟨fu, rfl⟩ : ∃ g, fu = g + 1 := ⟨fu - 1, by omega⟩
    have e : p = P := by omega
    subst e
    refine And.intro (pk_in row 11 (by omega)) ?_
    rw [nI_clamp (n := row) (by omega), hpar]
    refine br_t (nI_le (Nat.le_refl _) (by omega)) ?_
    refine y_joinC (b := 0) h74 hN (by omega) (by omega) hg (fun sa2 td2 g2 => And.intro bo_1 ?_) (fun sa2 td2 g2 => And.intro bo_0 ?_)
    · exact ys_1 hpo hF (Nat.le_refl _) hNM (yc_iff g2 (fun r => by rw [and_assoc]))
    · exact ys_0 hpo hF (fun r h => (⟨⟨h.1, h.2.1⟩, h.2.2⟩ : (C r ∧ ∀ j, j < p → r (jp sp t j) = r (72 + j)) ∧ r t = r 0)) g2
  | succ q ih =>
    intro p fu sa td hp hfu hg
    obtain ⟨fu, rfl⟩ : ∃ g, fu = g + 1 := ⟨fu - 1, by omega⟩
    obtain ⟨b1, b2⟩ := hbe p (by omega)
    refine And.intro (pk_in row 11 (by omega)) ?_
    rw [nI_clamp (n := row) (by omega), hpar]
    refine br_f (nI_ge (by omega) (by omega)) ?_
    rw [ix72, nI_add, nI_clamp (n := 72 * row + 3 * t + p) (by omega), b1, ix_72]
    refine And.intro (pk_in (72 * row + 3 * t + p) 792 (by omega)) ?_
    refine y_joinC h74 hN (by omega) (by omega) hg (fun sa2 td2 g2 => br_f n1_0 (nm_r (nI_1 p) (ih (p + 1) fu sa2 td2 (by omega) (by omega) (yc_iff g2 (fun r => ?_))))) (fun sa2 td2 g2 => br_t rfl ?_)
    · constructor
      · rintro ⟨⟨a, b⟩, c⟩
        refine ⟨a, fun j hj => ?_⟩
        by_cases z : j = p
        · subst z; exact c
        · exact b j (by omega)
      · rintro ⟨a, b⟩; exact ⟨⟨a, fun j hj => b j (by omega)⟩, b p (by omega)⟩
    · exact ys_0 hpo hF (fun r h => (⟨⟨h.1, fun j hj => h.2.1 j (by omega)⟩, h.2.1 p (by omega)⟩ : (C r ∧ ∀ j, j < p → r (jp sp t j) = r (72 + j)) ∧ r (jp sp t p) = r (72 + p))) g2
theorem y_called {post : Int32 → SY → Prop} {N M row f t g P w : Nat} {own : Bool} {sp : Nat → Nat} {C : (Nat → mt_T) → Prop} {Lc : List Nat} {ts : List mt_T} (h74 : 74 ≤ N) (hNM : N ≤ M) (hM : own = false → N + Lc.length ≤ M) (hM2 : M ≤ 790) (hrow : row ≤ 10) (ht : t < 24) (hf : f < 5) (hg5 : g < 5) (hP2 : P ≤ 2)
    (hval : ya_value (24 * row + t) = nI g) (hown : own = true ↔ g = f) (hpr : own = true → ya_parameters row = nI P) (hpg : own = false → ya_parameters g = nI P)
    (hbe : ∀ j, j < P → ya_below (72 * row + 3 * t + j) = nI (jp sp t j) ∧ jp sp t j < 24)
    (hts : own = false → (∀ t ∈ ts, mt_wf t) ∧ mt_encs ts = Lc ∧ ts.length = P + 1 ∧ Lc.length ≤ 42 ∧ (∀ k, k < Lc.length → Lc.getD k 0 < 60) ∧ ya_codeCount g = nI Lc.length ∧ ∀ k, k < Lc.length → ya_codes (48 * g + k) = nI (Lc.getD k 0))
    (hgc : yc_ok N ya_form ya_same ya_one ya_two C) (hpo : ys_post post N M yf_place (nI N) yf_names yf_textEnd yf_made yf_entry yf_waiting yf_values yf_bound yf_cells yf_conses yf_lams yf_steps yf_atWork yf_end yf_writtenCount ya_kind ya_up ya_turn ya_depth ya_value ya_below ya_length ya_parameters ya_codes ya_codeCount ya_form ya_colour ya_same ya_one ya_two ya_todo ya_numbered ya_text ya_ofFunction ya_codeEnd ya_instance ya_token ya_env ya_tag ya_cellEnv ya_boundNext ya_step ya_boundNumber ya_boundTag ya_headTag ya_tailTag ya_number ya_boundValue ya_head ya_tail ya_written C (ru_k 4 t (jp sp t) w own P Lc)) :
    wpY_called post (yf_place, (nI N), yf_names, yf_textEnd, yf_made, yf_entry, yf_waiting, yf_values, yf_bound, yf_cells, yf_conses, yf_lams, yf_steps, yf_atWork, yf_end, yf_writtenCount, ya_kind, ya_up, ya_turn, ya_depth, ya_value, ya_below, ya_length, ya_parameters, ya_codes, ya_codeCount, ya_form, ya_colour, ya_same, ya_one, ya_two, ya_todo, ya_numbered, ya_text, ya_ofFunction, ya_codeEnd, ya_instance, ya_token, ya_env, ya_tag, ya_cellEnv, ya_boundNext, ya_step, ya_boundNumber, ya_boundTag, ya_headTag, ya_tailTag, ya_number, ya_boundValue, ya_head, ya_tail, ya_written) (nI row) (nI t) (nI f) := by
  have ct : (24 * nI row + nI t).toNatClampNeg = 24 * row + t := by rw [ix24]; exact nI_clamp (by omega)
  refine And.intro (pk_in (24 * row + t) 264 (by omega) (ix24 _ _)) (nm_r (e' := nI g) (by rw [ct]; exact hval) (pk_eq g f (fun e => ?_) (fun e => ?_)))
  · have ho : own = true := hown.mpr e
    subst ho
    refine Exists.intro (P + 1) (y_called22 h74 (by omega) hNM hrow ht hP2 (hpr rfl) hbe hpo P 0 (P + 1) _ _ (by omega) (by omega) (yc_iff hgc (fun r => ⟨fun h => ⟨h, fun j hj => by omega⟩, fun h => h.1⟩)))
  · have ho : own = false := by cases own; rfl; exact absurd (hown.mp rfl) e
    subst ho
    obtain ⟨hw, hL, hlen, hl42, hc60, hcc, hcd⟩ := hts rfl
    have hM' := hM rfl
    have hpg := hpg rfl
    obtain ⟨K, L, R, rt, ds, g0, hs0⟩ := hgc
    refine And.intro (pk_in g 5 hg5) ?_
    have e48 : (48 : Int32) * nI g = nI (48 * g) := pk_mul 48 g
    rw [nI_clamp (n := g) (by omega), hcc, e48, nI_add]
    refine y_read (fl := false) (x3 := 0) h74 (by omega) rfl hw hL hl42 hc60 (Or.inl ⟨rfl, by omega, hcd⟩) g0 (fun N' fo' sa' on' tw' td' nu' K' L' R' rt' ds' tg st n1 n2 g' low' tl' rv' rk' mp' => ?_)
    have hst : st.length = P + 1 := by rw [← hlen, ← mp', List.length_map]
    have hrk : ∀ q, q ≤ P → td' (1000 + (P - q)) = nI (st.getD q 0) ∧ st.getD q 0 < N' := by
      intro q hq
      refine ⟨?_, (rk'.1 _ (gd_mem st q (by omega))).2⟩
      have := rk'.2 q (by omega)
      rw [hst] at this
      have e : P + 1 - 1 - q = P - q := by omega
      rw [e] at this; exact this
    have hrd := fun (F : (Nat → mt_T) → Prop) hF => rd_st (P := P) (b := t) (a := jp sp t) (F := F) g0 hs0 n1 hw hL hlen low' tl' rv' rk'.1 mp' (fun j hj => by have := (hbe j hj).2; omega) (by omega) (by omega) hF
    have ci : ∀ a, a < 2 ^ 31 → (nI a).toNatClampNeg = a := fun a ha => nI_clamp ha
    have e1 : ((1000 : Int32) + nI st.length) - 1 = nI (1000 + P) := by rw [ix_th, hst]; exact nI_pred (1000 + P)
    have eP : nI (1000 + P) - nI P = nI 1000 := by rw [pk_sub (by omega)]; exact congrArg nI (by omega)
    dsimp only
    rw [e1, hpg, eP]
    obtain ⟨o1, o2⟩ := hrk P (Nat.le_refl _)
    obtain ⟨p1, p2⟩ := hrk 0 (by omega)
    have ePP : 1000 + (P - P) = 1000 := by omega
    have eP0 : 1000 + (P - 0) = 1000 + P := by omega
    rw [ePP] at o1
    rw [eP0] at p1
    refine And.intro (pk_in g 11 (by omega)) (And.intro (pk_in 1000 1500 (by omega)) (nm_r (e' := nI (st.getD P 0)) (by rw [ci 1000 (by omega)]; exact o1) (And.intro (pk_in (1000 + P) 1500 (by omega)) (nm_r (e' := nI (st.getD 0 0)) (by rw [ci (1000 + P) (by omega)]; exact p1) ?_))))
    have ib : (72 * nI row + 3 * nI t).toNatClampNeg = 72 * row + 3 * t := by rw [ix72]; exact nI_clamp (by omega)
    have ib1 : (72 * nI row + 3 * nI t + 1).toNatClampNeg = 72 * row + 3 * t + 1 := by rw [ix72, nI_1]; exact nI_clamp (by omega)
    have hcs : P = 0 ∨ P = 1 ∨ P = 2 := by omega
    rcases hcs with rfl | rfl | rfl
    · have hF := hrd (fun r => gr_sat N' K' L' R' r ∧ r t = r (st.getD 0 0)) (fun r => ⟨fun h => ⟨h.1, fun j hj => by omega, h.2⟩, fun h => ⟨h.1, h.2.2⟩⟩)
      refine br_t (by rw [hst]; decide) (And.intro (pk_in g 11 (by omega)) ?_)
      rw [ci g (by omega), hpg]
      refine br_t (by decide) (br_f n1_0 (And.intro (pk_in g 11 (by omega)) ?_))
      rw [ci g (by omega), hpg]
      refine br_t (by decide) (br_f n1_0 ?_)
      exact y_joinC (by omega) (by omega) (by omega) o2 (yc_of g') (fun sa2 td2 g2 => br_f n1_0 (ys_1 hpo hF n1 (by omega) g2)) (fun sa2 td2 g2 => br_t rfl (ys_0 hpo hF (fun r h => h) g2))
    · have hF := hrd (fun r => (gr_sat N' K' L' R' r ∧ r (jp sp t 0) = r (st.getD 0 0)) ∧ r t = r (st.getD 1 0)) (fun r => by
        constructor
        · intro h
          refine ⟨h.1.1, fun j hj => ?_, h.2⟩
          have : j = 0 := by omega
          subst this; exact h.1.2
        · intro h; exact ⟨⟨h.1, h.2.1 0 (by omega)⟩, h.2.2⟩)
      obtain ⟨b1, b2⟩ := hbe 0 (by omega)
      obtain ⟨s1, s2⟩ := hrk 1 (by omega)
      have e2 : ((1000 : Int32) + nI st.length) - 2 = nI (1000 + 0) := by
        rw [ix_th, hst]
        have : (2 : Int32) = nI 2 := rfl
        rw [this, pk_sub (by omega)]
      rw [e2]
      refine br_f (by rw [hst]; decide) (And.intro (pk_in (1000 + 0) 1500 (by omega)) (And.intro (pk_in g 11 (by omega)) ?_))
      rw [ci g (by omega), hpg]
      refine br_f (by decide) (And.intro (pk_in (72 * row + 3 * t) 792 (by omega) (ix72 _ _)) ?_)
      rw [Nat.add_zero] at b1
      rw [ib, b1]
      refine y_joinC (by omega) (by omega) (by omega) p2 (yc_of g') (fun sa2 td2 g2 => br_f n1_0 (And.intro (pk_in g 11 (by omega)) ?_)) (fun sa2 td2 g2 => br_t rfl (br_t rfl (ys_0 hpo hF (fun r h => h.1) g2)))
      rw [ci g (by omega), hpg]
      refine br_t (by decide) (br_f n1_0 ?_)
      exact y_joinC (by omega) (by omega) (by omega) o2 g2 (fun sa3 td3 g3 => br_f n1_0 (ys_1 hpo hF n1 (by omega) g3)) (fun sa3 td3 g3 => br_t rfl (ys_0 hpo hF (fun r h => h) g3))
    · have hF := hrd (fun r => ((gr_sat N' K' L' R' r ∧ r (jp sp t 0) = r (st.getD 0 0)) ∧ r (jp sp t 1) = r (st.getD 1 0)) ∧ r t = r (st.getD 2 0)) (fun r => by
        constructor
        · intro h
          refine ⟨h.1.1.1, fun j hj => ?_, h.2⟩
          have hj' : j = 0 ∨ j = 1 := by omega
          rcases hj' with rfl | rfl
          · exact h.1.1.2
          · exact h.1.2
        · intro h; exact ⟨⟨⟨h.1, h.2.1 0 (by omega)⟩, h.2.1 1 (by omega)⟩, h.2.2⟩)
      obtain ⟨b1, b2⟩ := hbe 0 (by omega)
      obtain ⟨b3, b4⟩ := hbe 1 (by omega)
      obtain ⟨s1, s2⟩ := hrk 1 (by omega)
      have e2 : ((1000 : Int32) + nI st.length) - 2 = nI (1000 + 1) := by
        rw [ix_th, hst]
        have : (2 : Int32) = nI 2 := rfl
        rw [this, pk_sub (by omega)]
      rw [e2]
      refine br_f (by rw [hst]; decide) (And.intro (pk_in (1000 + 1) 1500 (by omega)) ?_)
      rw [ci (1000 + 1) (by omega)]
      have s1' : td' (1000 + 1) = nI (st.getD 1 0) := s1
      rw [s1']
      refine And.intro (pk_in g 11 (by omega)) ?_
      rw [ci g (by omega), hpg]
      refine br_f (by decide) (And.intro (pk_in (72 * row + 3 * t) 792 (by omega) (ix72 _ _)) ?_)
      rw [Nat.add_zero] at b1
      rw [ib, b1]
      refine y_joinC (by omega) (by omega) (by omega) p2 (yc_of g') (fun sa2 td2 g2 => br_f n1_0 (And.intro (pk_in g 11 (by omega)) ?_)) (fun sa2 td2 g2 => br_t rfl (br_t rfl (ys_0 hpo hF (fun r h => h.1.1) g2)))
      rw [ci g (by omega), hpg]
      refine br_f (by decide) (And.intro (pk_in (72 * row + 3 * t + 1) 792 (by omega) (by rw [ix72, nI_1])) ?_)
      rw [ib1, b3]
      refine y_joinC (by omega) (by omega) (by omega) s2 g2 (fun sa3 td3 g3 => br_f n1_0 ?_) (fun sa3 td3 g3 => br_t rfl (ys_0 hpo hF (fun r h => h.1) g3))
      exact y_joinC (by omega) (by omega) (by omega) o2 g3 (fun sa4 td4 g4 => br_f n1_0 (ys_1 hpo hF n1 (by omega) g4)) (fun sa4 td4 g4 => br_t rfl (ys_0 hpo hF (fun r h => h) g4))

variable {yf_place yf_points yf_names yf_textEnd yf_made yf_entry yf_waiting yf_values yf_bound yf_cells yf_conses yf_lams yf_steps yf_atWork yf_end yf_writtenCount : Int32} {ya_kind ya_up ya_turn ya_depth ya_value ya_below ya_length ya_parameters ya_codes ya_codeCount ya_form ya_colour ya_same ya_one ya_two ya_todo ya_numbered ya_text ya_ofFunction ya_codeEnd ya_instance ya_token ya_env ya_tag ya_cellEnv ya_boundNext ya_step ya_boundNumber ya_boundTag ya_headTag ya_tailTag ya_number ya_boundValue ya_head ya_tail ya_written : Nat → Int32}
section ru2
variable {N : Nat} {C : (Nat → mt_T) → Prop} {t a b w P : Nat} {own : Bool} {Lc : List Nat} {c : Nat → Nat}
theorem f_add (hl : lo_ok N C) (ht : t < N) (ha : a < N) (hb : b < N) (h0 : c 0 = a) (h1 : c 1 = b) : ys_ok N C (fun r => ((((((C r ∧ ((0 : Int32) = 10 ∨ r N = gr_at (fun _ => 0) (fun _ => 0) (fun _ => 0) r 0)) ∧ r a = r N) ∧ ((0 : Int32) = 10 ∨ r (N + 1) = gr_at (fun _ => 0) (fun _ => 0) (fun _ => 0) r 0)) ∧ r b = r (N + 1)) ∧
    ((0 : Int32) = 10 ∨ r (N + 1 + 1) = gr_at (fun _ => 0) (fun _ => 0) (fun _ => 0) r 0)) ∧ r t = r (N + 1 + 1))) (ru_k 12 t c w own P Lc) := by
  refine ⟨fun r hw h => ⟨h.1.1.1.1.1.1, ?_, ?_, ?_⟩, fun r hw hc hr => ?_⟩
  · rw [h0, h.1.1.1.1.2]; exact d0_e.mp h.1.1.1.1.1.2
  · rw [h1, h.1.1.2]; exact d0_e.mp h.1.1.1.2
  · rw [h.2]; exact d0_e.mp h.1.2
  · obtain ⟨e1, e2, e3⟩ := hr
    rw [h0] at e1
    rw [h1] at e2
    let r' := gr_put (gr_put (gr_put r N (.leaf 0)) (N + 1) (.leaf 0)) (N + 1 + 1) (.leaf 0)
    have lo : ∀ n, n < N → r' n = r n := fun n hn => by show gr_put _ _ _ n = _; rw [gr_put_ne (by omega), gr_put_ne (by omega), gr_put_ne (by omega)]
    have n0 : r' N = .leaf 0 := by show gr_put _ _ _ N = _; rw [gr_put_ne (by omega), gr_put_ne (by omega), gr_put_eq]
    have n1 : r' (N + 1) = .leaf 0 := by show gr_put _ _ _ (N + 1) = _; rw [gr_put_ne (by omega), gr_put_eq]
    have n2 : r' (N + 1 + 1) = .leaf 0 := gr_put_eq
    exact ⟨r', pt_wf (pt_wf (pt_wf hw mt_wf0) mt_wf0) mt_wf0, lo, ⟨⟨⟨⟨⟨hl r r' lo hc, d0_e.mpr n0⟩, by rw [lo a ha, n0]; exact e1⟩, d0_e.mpr n1⟩, by rw [lo b hb, n1]; exact e2⟩, d0_e.mpr n2⟩, by rw [lo t ht, n2]; exact e3⟩
theorem f_less (hl : lo_ok N C) (ht : t < N) (ha : a < N) (hb : b < N) (h0 : c 0 = a) (h1 : c 1 = b) : ys_ok N C (fun r => ((((((C r ∧ ((0 : Int32) = 10 ∨ r N = gr_at (fun _ => 0) (fun _ => 0) (fun _ => 0) r 0)) ∧ r a = r N) ∧ ((0 : Int32) = 10 ∨ r (N + 1) = gr_at (fun _ => 0) (fun _ => 0) (fun _ => 0) r 0)) ∧ r b = r (N + 1)) ∧
    ((1 : Int32) = 10 ∨ r (N + 1 + 1) = gr_at (fun _ => 1) (fun _ => 0) (fun _ => 0) r 0)) ∧ r t = r (N + 1 + 1))) (ru_k 13 t c w own P Lc) := by
  refine ⟨fun r hw h => ⟨h.1.1.1.1.1.1, ?_, ?_, ?_⟩, fun r hw hc hr => ?_⟩
  · rw [h0, h.1.1.1.1.2]; exact d0_e.mp h.1.1.1.1.1.2
  · rw [h1, h.1.1.2]; exact d0_e.mp h.1.1.1.2
  · rw [h.2]; exact d1_e.mp h.1.2
  · obtain ⟨e1, e2, e3⟩ := hr
    rw [h0] at e1
    rw [h1] at e2
    let r' := gr_put (gr_put (gr_put r N (.leaf 0)) (N + 1) (.leaf 0)) (N + 1 + 1) (.leaf 1)
    have lo : ∀ n, n < N → r' n = r n := fun n hn => by show gr_put _ _ _ n = _; rw [gr_put_ne (by omega), gr_put_ne (by omega), gr_put_ne (by omega)]
    have n0 : r' N = .leaf 0 := by show gr_put _ _ _ N = _; rw [gr_put_ne (by omega), gr_put_ne (by omega), gr_put_eq]
    have n1 : r' (N + 1) = .leaf 0 := by show gr_put _ _ _ (N + 1) = _; rw [gr_put_ne (by omega), gr_put_eq]
    have n2 : r' (N + 1 + 1) = .leaf 1 := gr_put_eq
    exact ⟨r', pt_wf (pt_wf (pt_wf hw mt_wf0) mt_wf0) mt_wf1, lo, ⟨⟨⟨⟨⟨hl r r' lo hc, d0_e.mpr n0⟩, by rw [lo a ha, n0]; exact e1⟩, d0_e.mpr n1⟩, by rw [lo b hb, n1]; exact e2⟩, d1_e.mpr n2⟩, by rw [lo t ht, n2]; exact e3⟩
end ru2
theorem ix_25 (t : Nat) : 25 + 2 * nI t = nI (25 + 2 * t) := by
  have : (2 : Int32) * nI t = nI (2 * t) := pk_mul 2 t
  rw [this]; exact nI_add 25 (2 * t)
theorem n13_nlt {k : Nat} (h : k ≤ 13) : ¬ (13 : Int32) < nI k := nI_nlt (b := k) (a := 13) h (by omega)
theorem y_rule {post : Int32 → SY → Prop} {N M row n f t g w P : Nat} {own : Bool} {kN : Nat → Nat} {vl : Nat → Int32} {oc sp bd bi : Nat → Nat} {C : (Nat → mt_T) → Prop} {Lc : List Nat} {ts : List mt_T} (h74 : 74 ≤ N) (hNM : N + 3 ≤ M) (hM : kN t = 4 → own = false → N + Lc.length ≤ M) (hM2 : M ≤ 790) (hrow : row ≤ 10) (hn : n ≤ 24) (ht : t < n) (hf : f < 5)
    (hb : yb_ok row n ya_kind ya_value ya_up ya_turn ya_depth ya_below kN vl oc sp bd) (htr : tr_ok n kN oc sp bd bi) (hbw : bw_is n oc sp)
    (hoc : ∀ t, t < n → oc t ≤ 3) (hk : ∀ t, t < n → kN t ≤ 16) (hbd : ∀ t, t < n → bd t ≤ 12) (hbi : ∀ t, t < n → bi t ≤ t)
    (har : kN t ≠ 4 → oc t = ar (kN t)) (h3 : kN t = 3 → ∃ v, v < 10 ∧ vl t = nI v ∧ w = vw bi bd (bi t) (bi t) v ∧ w < 74)
    (h4 : kN t = 4 → g < 5 ∧ P ≤ 2 ∧ oc t = P ∧ vl t = nI g ∧ (own = true ↔ g = f) ∧ (own = true → ya_parameters row = nI P) ∧ (own = false → ya_parameters g = nI P) ∧
      (own = false → (∀ t ∈ ts, mt_wf t) ∧ mt_encs ts = Lc ∧ ts.length = P + 1 ∧ Lc.length ≤ 42 ∧ (∀ k, k < Lc.length → Lc.getD k 0 < 60) ∧ ya_codeCount g = nI Lc.length ∧ ∀ k, k < Lc.length → ya_codes (48 * g + k) = nI (Lc.getD k 0)))
    (hgc : yc_ok N ya_form ya_same ya_one ya_two C) (hpo : ys_post post N M yf_place (nI N) yf_names yf_textEnd yf_made yf_entry yf_waiting yf_values yf_bound yf_cells yf_conses yf_lams yf_steps yf_atWork yf_end yf_writtenCount ya_kind ya_up ya_turn ya_depth ya_value ya_below ya_length ya_parameters ya_codes ya_codeCount ya_form ya_colour ya_same ya_one ya_two ya_todo ya_numbered ya_text ya_ofFunction ya_codeEnd ya_instance ya_token ya_env ya_tag ya_cellEnv ya_boundNext ya_step ya_boundNumber ya_boundTag ya_headTag ya_tailTag ya_number ya_boundValue ya_head ya_tail ya_written C (ru_k (kN t) t (jp sp t) w own P Lc)) :
    wpY_rule post (yf_place, (nI N), yf_names, yf_textEnd, yf_made, yf_entry, yf_waiting, yf_values, yf_bound, yf_cells, yf_conses, yf_lams, yf_steps, yf_atWork, yf_end, yf_writtenCount, ya_kind, ya_up, ya_turn, ya_depth, ya_value, ya_below, ya_length, ya_parameters, ya_codes, ya_codeCount, ya_form, ya_colour, ya_same, ya_one, ya_two, ya_todo, ya_numbered, ya_text, ya_ofFunction, ya_codeEnd, ya_instance, ya_token, ya_env, ya_tag, ya_cellEnv, ya_boundNext, ya_step, ya_boundNumber, ya_boundTag, ya_headTag, ya_tailTag, ya_number, ya_boundValue, ya_head, ya_tail, ya_written) (nI row) (nI t) (nI f) := by
  obtain ⟨b1, b2, b3, b4, _, _⟩ := hb t ht
  have hlo : lo_ok N C := fun r r' e h => yc_low hgc e h
  have hbe : ∀ j, j < oc t → ya_below (72 * row + 3 * t + j) = nI (jp sp t j) ∧ jp sp t j < 24 := fun j hj => ⟨b4 j hj, by have := (bw_in hbw ht hj).2.2; omega⟩
  have ht24 : t < 24 := by omega
  have i0 : (72 * nI row + 3 * nI t) = nI (72 * row + 3 * t) := ix72 row t
  have ct : (24 * nI row + nI t).toNatClampNeg = 24 * row + t := by rw [ix24]; exact nI_clamp (by omega)
  have e2 : nI (72 * row + 3 * t) + 2 = nI (72 * row + 3 * t + 2) := nI_add _ 2
  refine nm_r i0 (And.intro (pk_in (72 * row + 3 * t) 792 (by omega)) (nm_e (And.intro (pk_in (72 * row + 3 * t + 1) 792 (by omega) (nI_1 _)) (nm_e (And.intro (pk_in (72 * row + 3 * t + 2) 792 (by omega) e2) (nm_e (And.intro (pk_in (24 * row + t) 264 (by omega) (ix24 _ _)) (nm_r (e' := nI (kN t)) (by rw [ct]; exact b1) ?_))))))))
  rw [nI_1, e2, nI_clamp (n := 72 * row + 3 * t) (by omega), nI_clamp (n := 72 * row + 3 * t + 1) (by omega), nI_clamp (n := 72 * row + 3 * t + 2) (by omega)]
  have o0 : 0 < oc t → ya_below (72 * row + 3 * t) = nI (jp sp t 0) := fun h => (hbe 0 h).1
  have o1 : 1 < oc t → ya_below (72 * row + 3 * t + 1) = nI (jp sp t 1) := fun h => (hbe 1 h).1
  have o2 : 2 < oc t → ya_below (72 * row + 3 * t + 2) = nI (jp sp t 2) := fun h => (hbe 2 h).1
  have c0 : 0 < oc t → jp sp t 0 < N := fun h => by have := (hbe 0 h).2; omega
  have c1 : 1 < oc t → jp sp t 1 < N := fun h => by have := (hbe 1 h).2; omega
  have c2 : 2 < oc t → jp sp t 2 < N := fun h => by have := (hbe 2 h).2; omega
  have x0 : 0 < N := by omega
  have xt : t < N := by omega
  rcases k17 (hk t ht) with z | z | z | z | z | z | z | z | z | z | z | z | z | z | z | z | z
  · rw [z] at hpo ⊢
    have hF := f_leaf0 (c := jp sp t) (w := w) (own := own) (P := P) (Lc := Lc) hlo xt
    exact br_f (by decide) (br_f (by decide) (br_t rfl (y_is (c := 0) (a := 0) (b := 0) h74 (by omega) kd_0 n0_5 rfl xt x0 x0 hgc (fun fo' sa' on' tw' td' g => And.intro bo_1 (ys_1 hpo hF (by omega) (by omega) g)) (fun fo' sa' on' tw' td' g => And.intro bo_0 (ys_0 hpo hF (fun r h => h) g)))))
  · rw [z] at hpo ⊢
    have hF := f_leaf1 (c := jp sp t) (w := w) (own := own) (P := P) (Lc := Lc) hlo xt 1 (Or.inl rfl)
    exact br_f (by decide) (br_f (by decide) (br_f (by decide) (br_t rfl (y_is (c := 1) (a := 0) (b := 0) h74 (by omega) kd_1 n1_5 rfl xt x0 x0 hgc (fun fo' sa' on' tw' td' g => And.intro bo_1 (ys_1 hpo hF (by omega) (by omega) g)) (fun fo' sa' on' tw' td' g => And.intro bo_0 (ys_0 hpo hF (fun r h => h) g))))))
  · rw [z] at hpo ⊢
    have hF := f_leaf1 (c := jp sp t) (w := w) (own := own) (P := P) (Lc := Lc) hlo xt 2 (Or.inr rfl)
    exact br_f (by decide) (br_f (by decide) (br_f (by decide) (br_f (by decide) (br_t rfl (y_is (c := 1) (a := 0) (b := 0) h74 (by omega) kd_1 n1_5 rfl xt x0 x0 hgc (fun fo' sa' on' tw' td' g => And.intro bo_1 (ys_1 hpo hF (by omega) (by omega) g)) (fun fo' sa' on' tw' td' g => And.intro bo_0 (ys_0 hpo hF (fun r h => h) g)))))))
  · obtain ⟨v, v1, v2, v3, v4⟩ := h3 z
    rw [z] at hpo ⊢
    have hF := f_var (N := N) (C := C) (t := t) (c := jp sp t) (w := w) (own := own) (P := P) (Lc := Lc)
    refine br_f (by decide) (br_f (by decide) (br_f (by decide) (br_f (by decide) (br_f (by decide) (br_t rfl (y_variable hrow hn v1 hb htr hoc hk hbd hbi ht v2 ?_))))))
    rw [← v3]
    exact y_joinC h74 (by omega) xt (by omega) hgc (fun sa' td' g => And.intro bo_1 (ys_1 hpo hF (Nat.le_refl _) (by omega) g)) (fun sa' td' g => And.intro bo_0 (ys_0 hpo hF (fun r h => h) g))
  · obtain ⟨q1, q2, q3, q4, q5, q6, q7, q8⟩ := h4 z
    have hM' := hM z
    rw [z] at hpo ⊢
    refine br_f (by decide) (br_f (by decide) (br_f (by decide) (br_f (by decide) (br_f (by decide) (br_f (by decide) (br_t rfl ?_))))))
    refine y_called (ts := ts) h74 (by omega) hM' hM2 hrow ht24 hf q1 q2 (by rw [b2]; exact q4) q5 q6 q7 (fun j hj => hbe j (by omega)) q8 hgc ⟨fun N' fo' sa' on' tw' td' nu' C' h1 h2 hg hs => And.intro bo_1 (hpo.1 N' fo' sa' on' tw' td' nu' C' h1 h2 hg hs), fun N' fo' sa' on' tw' td' nu' hno => And.intro bo_0 (hpo.2 N' fo' sa' on' tw' td' nu' hno)⟩
  · have o : oc t = 2 := by rw [har (by omega), z]; rfl
    rw [z] at hpo ⊢
    have hF := f_pair (w := w) (own := own) (P := P) (Lc := Lc) hlo xt (c0 (by omega)) (c1 (by omega)) rfl rfl
    rw [o0 (by omega), o1 (by omega)]
    exact br_f (by decide) (br_f (by decide) (br_f (by decide) (br_f (by decide) (br_f (by decide) (br_f (by decide) (br_f (by decide) (br_t rfl (y_is (c := 2) h74 (by omega) kd_2 n2_5 rfl xt (c0 (by omega)) (c1 (by omega)) hgc (fun fo' sa' on' tw' td' g => And.intro bo_1 (ys_1 hpo hF (by omega) (by omega) g)) (fun fo' sa' on' tw' td' g => And.intro bo_0 (ys_0 hpo hF (fun r h => h) g))))))))))
  · have o : oc t = 1 := by rw [har (by omega), z]; rfl
    rw [z] at hpo ⊢
    have hF := f_fst (w := w) (own := own) (P := P) (Lc := Lc) hlo xt (c0 (by omega)) rfl
    rw [o0 (by omega)]
    exact br_f (by decide) (br_f (by decide) (br_f (by decide) (br_f (by decide) (br_f (by decide) (br_f (by decide) (br_f (by decide) (br_f (by decide) (br_t rfl (br_t rfl (y_pointC (c := 10) (a := 0) (b := 0) h74 (by omega) kd_10 n10_5 rfl x0 x0 hgc (fun fo' sa' on' tw' g => br_f (by decide) (br_f (by decide) (br_t rfl (y_is (c := 2) (by omega) (by omega) kd_2 n2_5 rfl (by have := c0 (by omega); omega) (by omega) (by omega) g (fun fo2 sa2 on2 tw2 td2 g2 => And.intro bo_1 (And.intro bo_1 (ys_1 hpo hF (by omega) (by omega) g2))) (fun fo2 sa2 on2 tw2 td2 g2 => And.intro bo_0 (And.intro bo_0 (ys_0 hpo hF (fun r h => h) g2)))))))))))))))))
  · have o : oc t = 1 := by rw [har (by omega), z]; rfl
    rw [z] at hpo ⊢
    have hF := f_snd (w := w) (own := own) (P := P) (Lc := Lc) hlo xt (c0 (by omega)) rfl
    rw [o0 (by omega)]
    exact br_f (by decide) (br_f (by decide) (br_f (by decide) (br_f (by decide) (br_f (by decide) (br_f (by decide) (br_f (by decide) (br_f (by decide) (br_f (by decide) (br_t rfl (br_f (by decide) (br_t rfl (y_pointC (c := 10) (a := 0) (b := 0) h74 (by omega) kd_10 n10_5 rfl x0 x0 hgc (fun fo' sa' on' tw' g => br_f (by decide) (br_f (by decide) (br_f (by decide) (br_t rfl (y_is (c := 2) (by omega) (by omega) kd_2 n2_5 rfl (by have := c0 (by omega); omega) (by omega) (by omega) g (fun fo2 sa2 on2 tw2 td2 g2 => And.intro bo_1 (And.intro bo_1 (ys_1 hpo hF (by omega) (by omega) g2))) (fun fo2 sa2 on2 tw2 td2 g2 => And.intro bo_0 (And.intro bo_0 (ys_0 hpo hF (fun r h => h) g2))))))))))))))))))))
  · have o : oc t = 0 := by rw [har (by omega), z]; rfl
    rw [z] at hpo ⊢
    have hF := f_nil (c := jp sp t) (w := w) (own := own) (P := P) (Lc := Lc) hlo xt
    exact br_f (by decide) (br_f (by decide) (br_f (by decide) (br_f (by decide) (br_f (by decide) (br_f (by decide) (br_f (by decide) (br_f (by decide) (br_f (by decide) (br_f (by decide) (br_t rfl (br_f (by decide) (br_f (by decide) (br_t rfl (y_pointC (c := 10) (a := 0) (b := 0) h74 (by omega) kd_10 n10_5 rfl x0 x0 hgc (fun fo' sa' on' tw' g => br_f (by decide) (br_f (by decide) (br_f (by decide) (br_f (by decide) (br_t rfl (y_is (c := 3) (by omega) (by omega) kd_3 n3_5 rfl (by omega) (by omega) (show 0 < N + 1 by omega) g (fun fo2 sa2 on2 tw2 td2 g2 => And.intro bo_1 (And.intro bo_1 (ys_1 hpo hF (by omega) (by omega) g2))) (fun fo2 sa2 on2 tw2 td2 g2 => And.intro bo_0 (And.intro bo_0 (ys_0 hpo hF (fun r h => h) g2)))))))))))))))))))))))
  · have o : oc t = 2 := by rw [har (by omega), z]; rfl
    rw [z] at hpo ⊢
    have hF := f_cons (w := w) (own := own) (P := P) (Lc := Lc) hlo xt (c0 (by omega)) (c1 (by omega)) rfl rfl
    rw [o0 (by omega), o1 (by omega)]
    exact br_f (by decide) (br_f (by decide) (br_f (by decide) (br_f (by decide) (br_f (by decide) (br_f (by decide) (br_f (by decide) (br_f (by decide) (br_f (by decide) (br_f (by decide) (br_f (by decide) (br_t rfl (br_f (by decide) (br_f (by decide) (br_f (by decide) (br_f (by decide) (br_f (by decide) (br_f (by decide) (br_f (by decide) (br_f (by decide) (br_t rfl (y_is (c := 3) h74 (by omega) kd_3 n3_5 rfl (c1 (by omega)) (c0 (by omega)) x0 hgc (fun fo2 sa2 on2 tw2 td2 g2 => br_f n1_0 (y_joinC (by omega) (by omega) (by omega) (by have := c1 (by omega); omega) g2 (fun sa3 td3 g3 => br_f n1_0 (And.intro bo_1 (ys_1 hpo hF (by omega) (by omega) g3))) (fun sa3 td3 g3 => br_t rfl (And.intro bo_0 (ys_0 hpo hF (fun r h => h) g3))))) (fun fo2 sa2 on2 tw2 td2 g2 => br_t rfl (And.intro bo_0 (ys_0 hpo hF (fun r h => h.1) g2))))))))))))))))))))))))
  · have o : oc t = 3 := by rw [har (by omega), z]; rfl
    rw [z] at hpo ⊢
    have hF := f_case (w := w) (own := own) (P := P) (Lc := Lc) hlo xt (by omega) (c0 (by omega)) (c1 (by omega)) (c2 (by omega)) rfl rfl rfl
    rw [o0 (by omega), o1 (by omega), o2 (by omega), ix_2 t, ix_25 t]
    exact br_f (by decide) (br_f (by decide) (br_f (by decide) (br_f (by decide) (br_f (by decide) (br_f (by decide) (br_f (by decide) (br_f (by decide) (br_f (by decide) (br_f (by decide) (br_f (by decide) (br_f (by decide) (br_t rfl (y_is (c := 3) h74 (by omega) kd_3 n3_5 rfl (c0 (by omega)) (by omega) x0 hgc (fun fo2 sa2 on2 tw2 td2 g2 => br_f n1_0 (y_joinC (a := 25 + 2 * t) (by omega) (by omega) (by omega) (by have := c0 (by omega); omega) g2 (fun sa3 td3 g3 => br_f n1_0 (y_joinC (by omega) (by omega) (by have := c1 (by omega); omega) (by omega) g3 (fun sa4 td4 g4 => br_f n1_0 (y_joinC (by omega) (by omega) (by have := c2 (by omega); omega) (by omega) g4 (fun sa5 td5 g5 => br_f n1_0 (ys_1 hpo hF (by omega) (by omega) g5)) (fun sa5 td5 g5 => br_t rfl (ys_0 hpo hF (fun r h => h) g5)))) (fun sa4 td4 g4 => br_t rfl (ys_0 hpo hF (fun r h => h.1) g4)))) (fun sa3 td3 g3 => br_t rfl (ys_0 hpo hF (fun r h => h.1.1) g3)))) (fun fo2 sa2 on2 tw2 td2 g2 => br_t rfl (ys_0 hpo hF (fun r h => h.1.1.1) g2)))))))))))))))
  · have o : oc t = 3 := by rw [har (by omega), z]; rfl
    rw [z] at hpo ⊢
    have hF := f_if (w := w) (own := own) (P := P) (Lc := Lc) hlo xt (c0 (by omega)) (c1 (by omega)) (c2 (by omega)) rfl rfl rfl
    rw [o0 (by omega), o1 (by omega), o2 (by omega)]
    exact br_f (by decide) (br_f (by decide) (br_f (by decide) (br_f (by decide) (br_f (by decide) (br_f (by decide) (br_f (by decide) (br_f (by decide) (br_f (by decide) (br_f (by decide) (br_f (by decide) (br_f (by decide) (br_f (by decide) (br_t rfl (y_is (c := 1) h74 (by omega) kd_1 n1_5 rfl (c0 (by omega)) x0 x0 hgc (fun fo2 sa2 on2 tw2 td2 g2 => br_f n1_0 (y_joinC (by omega) (by omega) (by have := c1 (by omega); omega) (by omega) g2 (fun sa3 td3 g3 => br_f n1_0 (y_joinC (by omega) (by omega) (by have := c2 (by omega); omega) (by omega) g3 (fun sa4 td4 g4 => br_f n1_0 (ys_1 hpo hF (by omega) (by omega) g4)) (fun sa4 td4 g4 => br_t rfl (ys_0 hpo hF (fun r h => h) g4)))) (fun sa3 td3 g3 => br_t rfl (ys_0 hpo hF (fun r h => h.1) g3)))) (fun fo2 sa2 on2 tw2 td2 g2 => br_t rfl (ys_0 hpo hF (fun r h => h.1.1) g2))))))))))))))))
  · have o : oc t = 2 := by rw [har (by omega), z]; rfl
    rw [z] at hpo ⊢
    have hF := f_add (w := w) (own := own) (P := P) (Lc := Lc) hlo xt (c0 (by omega)) (c1 (by omega)) rfl rfl
    rw [o0 (by omega), o1 (by omega)]
    exact br_f (by decide) (br_f (by decide) (br_f (by decide) (br_f (by decide) (br_f (by decide) (br_f (by decide) (br_f (by decide) (br_f (by decide) (br_f (by decide) (br_f (by decide) (br_f (by decide) (br_f (by decide) (br_f (by decide) (br_f (by decide) (br_t rfl (y_is (c := 0) h74 (by omega) kd_0 n0_5 rfl (c0 (by omega)) x0 x0 hgc (fun fo2 sa2 on2 tw2 td2 g2 => br_f n1_0 (y_is (c := 0) (by omega) (by omega) kd_0 n0_5 rfl (by have := c1 (by omega); omega) (show 0 < N + 1 by omega) (show 0 < N + 1 by omega) g2 (fun fo3 sa3 on3 tw3 td3 g3 => br_f n1_0 (y_is (c := 0) (by omega) (by omega) kd_0 n0_5 rfl (by omega) (show 0 < N + 1 + 1 by omega) (show 0 < N + 1 + 1 by omega) g3 (fun fo4 sa4 on4 tw4 td4 g4 => br_f n1_0 (ys_1 hpo hF (by omega) (by omega) g4)) (fun fo4 sa4 on4 tw4 td4 g4 => br_t rfl (ys_0 hpo hF (fun r h => h) g4)))) (fun fo3 sa3 on3 tw3 td3 g3 => br_t rfl (ys_0 hpo hF (fun r h => h.1.1) g3)))) (fun fo2 sa2 on2 tw2 td2 g2 => br_t rfl (ys_0 hpo hF (fun r h => h.1.1.1.1) g2)))))))))))))))))
  · have o : oc t = 2 := by rw [har (by omega), z]; rfl
    rw [z] at hpo ⊢
    have hF := f_less (w := w) (own := own) (P := P) (Lc := Lc) hlo xt (c0 (by omega)) (c1 (by omega)) rfl rfl
    rw [o0 (by omega), o1 (by omega)]
    exact br_f (by decide) (br_f (by decide) (br_f (by decide) (br_f (by decide) (br_f (by decide) (br_f (by decide) (br_f (by decide) (br_f (by decide) (br_f (by decide) (br_f (by decide) (br_f (by decide) (br_f (by decide) (br_f (by decide) (br_f (by decide) (br_f (by decide) (br_t rfl (y_is (c := 0) h74 (by omega) kd_0 n0_5 rfl (c0 (by omega)) x0 x0 hgc (fun fo2 sa2 on2 tw2 td2 g2 => br_f n1_0 (y_is (c := 0) (by omega) (by omega) kd_0 n0_5 rfl (by have := c1 (by omega); omega) (show 0 < N + 1 by omega) (show 0 < N + 1 by omega) g2 (fun fo3 sa3 on3 tw3 td3 g3 => br_f n1_0 (y_is (c := 1) (by omega) (by omega) kd_1 n1_5 rfl (by omega) (show 0 < N + 1 + 1 by omega) (show 0 < N + 1 + 1 by omega) g3 (fun fo4 sa4 on4 tw4 td4 g4 => br_f n1_0 (ys_1 hpo hF (by omega) (by omega) g4)) (fun fo4 sa4 on4 tw4 td4 g4 => br_t rfl (ys_0 hpo hF (fun r h => h) g4)))) (fun fo3 sa3 on3 tw3 td3 g3 => br_t rfl (ys_0 hpo hF (fun r h => h.1.1) g3)))) (fun fo2 sa2 on2 tw2 td2 g2 => br_t rfl (ys_0 hpo hF (fun r h => h.1.1.1.1) g2))))))))))))))))))
  · have o : oc t = 2 := by rw [har (by omega), z]; rfl
    rw [z] at hpo ⊢
    have hF := f_let (N := N) (C := C) (t := t) (w := w) (own := own) (P := P) (Lc := Lc) (a := jp sp t 0) (b := jp sp t 1) (c := jp sp t) rfl rfl
    rw [o0 (by omega), o1 (by omega)]
    refine br_f (by decide) (br_t (by decide) (br_f (by decide) (br_f (by decide) (br_f (by decide) (br_f (by decide) (br_f (by decide) (br_f (by decide) (br_f (by decide) (br_f (by decide) (br_f (by decide) (br_f (by decide) (br_f (by decide) (br_f (by decide) (br_f (by decide) (br_t rfl (?_))))))))))))))))
    rw [ix_2]
    exact y_joinC (by omega) (by omega) (by omega) (c0 (by omega)) hgc (fun sa2 td2 g2 => br_f n1_0 (y_joinC (by omega) (by omega) (by omega) (by have := c1 (by omega); omega) g2 (fun sa3 td3 g3 => br_f n1_0 (And.intro bo_1 (ys_1 hpo hF (by omega) (by omega) g3))) (fun sa3 td3 g3 => br_t rfl (And.intro bo_0 (ys_0 hpo hF (fun r h => h) g3))))) (fun sa2 td2 g2 => br_t rfl (And.intro bo_0 (ys_0 hpo hF (fun r h => h.1) g2)))
  · have o : oc t = 1 := by rw [har (by omega), z]; rfl
    rw [z] at hpo ⊢
    have hF := f_lam (w := w) (own := own) (P := P) (Lc := Lc) hlo xt (c0 (by omega)) (by omega) rfl
    rw [o0 (by omega)]
    refine br_f (by decide) (br_t (by decide) (br_f (by decide) (br_f (by decide) (br_f (by decide) (br_f (by decide) (br_f (by decide) (br_f (by decide) (br_f (by decide) (br_f (by decide) (br_f (by decide) (br_f (by decide) (br_f (by decide) (br_f (by decide) (br_f (by decide) (br_f (by decide) (br_t rfl (?_)))))))))))))))))
    rw [ix_2]
    exact y_is (c := 4) h74 (by omega) kd_4 n4_5 rfl xt (by omega) (c0 (by omega)) hgc (fun fo2 sa2 on2 tw2 td2 g2 => And.intro bo_1 (And.intro bo_1 (ys_1 hpo hF (by omega) (by omega) g2))) (fun fo2 sa2 on2 tw2 td2 g2 => And.intro bo_0 (And.intro bo_0 (ys_0 hpo hF (fun r h => h) g2)))
  · have o : oc t = 2 := by rw [har (by omega), z]; rfl
    rw [z] at hpo ⊢
    have hF := f_app (w := w) (own := own) (P := P) (Lc := Lc) hlo xt (c0 (by omega)) (c1 (by omega)) rfl rfl
    rw [o0 (by omega), o1 (by omega)]
    exact br_f (by decide) (br_t (by decide) (br_f (by decide) (br_f (by decide) (br_f (by decide) (br_f (by decide) (br_t (by decide) (y_is (c := 4) h74 (by omega) kd_4 n4_5 rfl (c0 (by omega)) (c1 (by omega)) xt hgc (fun fo2 sa2 on2 tw2 td2 g2 => And.intro bo_1 (And.intro bo_1 (ys_1 hpo hF (by omega) (by omega) g2))) (fun fo2 sa2 on2 tw2 td2 g2 => And.intro bo_0 (And.intro bo_0 (ys_0 hpo hF (fun r h => h) g2))))))))))

variable {yf_place yf_points yf_names yf_textEnd yf_made yf_entry yf_waiting yf_values yf_bound yf_cells yf_conses yf_lams yf_steps yf_atWork yf_end yf_writtenCount : Int32} {ya_kind ya_up ya_turn ya_depth ya_value ya_below ya_length ya_parameters ya_codes ya_codeCount ya_form ya_colour ya_same ya_one ya_two ya_todo ya_numbered ya_text ya_ofFunction ya_codeEnd ya_instance ya_token ya_env ya_tag ya_cellEnv ya_boundNext ya_step ya_boundNumber ya_boundTag ya_headTag ya_tailTag ya_number ya_boundValue ya_head ya_tail ya_written : Nat → Int32}
abbrev JY := Int32 → (Nat → Int32) → (Nat → Int32) → (Nat → Int32) → (Nat → Int32) → (Nat → Int32) → (Nat → Int32) → (Nat → Int32) → (Nat → Int32) → (Nat → Int32) → (Nat → Int32) → (Nat → Int32) → (Nat → Int32) → (Nat → Int32) → (Nat → Int32) → (Nat → Int32) → (Nat → Int32) → (Nat → Int32) → (Nat → Int32) → (Nat → Int32) → (Nat → Int32) → (Nat → Int32) → (Nat → Int32) → (Nat → Int32) → (Nat → Int32) → (Nat → Int32) → (Nat → Int32) → (Nat → Int32) → (Nat → Int32) → (Nat → Int32) → (Nat → Int32) → (Nat → Int32) → (Nat → Int32) → (Nat → Int32) → (Nat → Int32) → (Nat → Int32) → (Nat → Int32) → Prop
theorem y_f203 {post : Int32 → SY → Prop} {J25 J61 : JY} {x1 : Int32} {N top m : Nat} {K : Nat → Int32} {L R rt ds cN : Nat → Nat} (hN : N ≤ 900) (htop : top < 1500) (hg : yg_ok N ya_form ya_same ya_one ya_two K L R rt ds) (hm : m < N)
    (hC : ∀ n, n < N → ya_colour n = nI (cN n) ∧ cN n ≤ 3)
    (h12 : cN (rt m) = 1 ∨ cN (rt m) = 2 → post 0 (yf_place, yf_points, yf_names, yf_textEnd, yf_made, yf_entry, yf_waiting, yf_values, yf_bound, yf_cells, yf_conses, yf_lams, yf_steps, yf_atWork, yf_end, yf_writtenCount, ya_kind, ya_up, ya_turn, ya_depth, ya_value, ya_below, ya_length, ya_parameters, ya_codes, ya_codeCount, ya_form, ya_colour, ya_same, ya_one, ya_two, ya_todo, ya_numbered, ya_text, ya_ofFunction, ya_codeEnd, ya_instance, ya_token, ya_env, ya_tag, ya_cellEnv, ya_boundNext, ya_step, ya_boundNumber, ya_boundTag, ya_headTag, ya_tailTag, ya_number, ya_boundValue, ya_head, ya_tail, ya_written))
    (h0 : cN (rt m) = 0 → J61 (nI (top + 1)) ya_kind ya_up ya_turn ya_depth ya_value ya_below ya_length ya_parameters ya_codes ya_codeCount ya_form ya_colour ya_same ya_one ya_two (upd ya_todo top (nI (rt m))) ya_numbered ya_text ya_ofFunction ya_codeEnd ya_instance ya_token ya_env ya_tag ya_cellEnv ya_boundNext ya_step ya_boundNumber ya_boundTag ya_headTag ya_tailTag ya_number ya_boundValue ya_head ya_tail ya_written)
    (h3 : cN (rt m) = 3 → J61 (nI top) ya_kind ya_up ya_turn ya_depth ya_value ya_below ya_length ya_parameters ya_codes ya_codeCount ya_form ya_colour ya_same ya_one ya_two ya_todo ya_numbered ya_text ya_ofFunction ya_codeEnd ya_instance ya_token ya_env ya_tag ya_cellEnv ya_boundNext ya_step ya_boundNumber ya_boundTag ya_headTag ya_tailTag ya_number ya_boundValue ya_head ya_tail ya_written) : wY_finite_203 post J25 J61 x1 (nI top) (nI m) yf_place yf_points yf_names yf_textEnd yf_made yf_entry yf_waiting yf_values yf_bound yf_cells yf_conses yf_lams yf_steps yf_atWork yf_end yf_writtenCount ya_kind ya_up ya_turn ya_depth ya_value ya_below ya_length ya_parameters ya_codes ya_codeCount ya_form ya_colour ya_same ya_one ya_two ya_todo ya_numbered ya_text ya_ofFunction ya_codeEnd ya_instance ya_token ya_env ya_tag ya_cellEnv ya_boundNext ya_step ya_boundNumber ya_boundTag ya_headTag ya_tailTag ya_number ya_boundValue ya_head ya_tail ya_written := by
  obtain ⟨c1, _⟩ := hg.2 m hm
  obtain ⟨e1, e2⟩ := hC _ c1
  have cc : (nI (rt m)).toNatClampNeg = rt m := nI_clamp (by omega)
  refine y_find hN hg hm (And.intro (pk_in (rt m) 900 (by omega)) ?_)
  rw [cc, e1]
  refine pk_eq (cN (rt m)) 1 (fun z => h12 (Or.inl z)) (fun z1 => And.intro (pk_in (rt m) 900 (by omega)) (pk_eq (cN (rt m)) 2 (fun z => h12 (Or.inr z)) (fun z2 => And.intro (pk_in (rt m) 900 (by omega)) (pk_eq (cN (rt m)) 0 (fun z => ?_) (fun z => h3 (by omega))))))
  refine nm_r (nI_1 top) (And.intro (pk_in top 1500 htop) (nm_r (e' := upd ya_todo top (nI (rt m))) (by rw [nI_clamp (by omega), nr_s (by omega)]) (h0 z)))
theorem y_f61 {post : Int32 → SY → Prop} {J25 : JY} {x1 : Int32} {N r0 : Nat} {K : Nat → Int32} {L R rt ds : Nat → Nat} {Dn : Nat → Prop} (hN : N ≤ 900) (hg : yg_ok N ya_form ya_same ya_one ya_two K L R rt ds)
    (hJ : ∀ (C' T' : Nat → Int32) (cN' : Nat → Nat) (c' : Nat → mt_T), (∀ n, n < N → C' n = nI (cN' n)) → (∀ n, n < N → cN' n = 0 ∨ cN' n = 3) → (∀ n, n < N → K n = 5 → cN' n = 0) → gr_M N K (fun n => rt (L n)) (fun n => rt (R n)) (fun n => cN' n = 3) c' →
      (∀ n, Dn n → cN' n = 3) → cN' r0 = 3 → J25 (x1 + 1) ya_kind ya_up ya_turn ya_depth ya_value ya_below ya_length ya_parameters ya_codes ya_codeCount ya_form C' ya_same ya_one ya_two T' ya_numbered ya_text ya_ofFunction ya_codeEnd ya_instance ya_token ya_env ya_tag ya_cellEnv ya_boundNext ya_step ya_boundNumber ya_boundTag ya_headTag ya_tailTag ya_number ya_boundValue ya_head ya_tail ya_written)
    (hP0 : ∀ C' T', (∀ r, ¬ gr_sat N K L R r) → post 0 (yf_place, (nI N), yf_names, yf_textEnd, yf_made, yf_entry, yf_waiting, yf_values, yf_bound, yf_cells, yf_conses, yf_lams, yf_steps, yf_atWork, yf_end, yf_writtenCount, ya_kind, ya_up, ya_turn, ya_depth, ya_value, ya_below, ya_length, ya_parameters, ya_codes, ya_codeCount, ya_form, C', ya_same, ya_one, ya_two, T', ya_numbered, ya_text, ya_ofFunction, ya_codeEnd, ya_instance, ya_token, ya_env, ya_tag, ya_cellEnv, ya_boundNext, ya_step, ya_boundNumber, ya_boundTag, ya_headTag, ya_tailTag, ya_number, ya_boundValue, ya_head, ya_tail, ya_written)) :
    ∀ (f top : Nat) (C T : Nat → Int32) (cN S : Nat → Nat) (c : Nat → mt_T), fi_ok N K (fun n => rt (L n)) (fun n => rt (R n)) cN S top → (∀ n, n < N → C n = nI (cN n)) → (∀ i, i < top → T i = nI (S i)) →
      gr_M N K (fun n => rt (L n)) (fun n => rt (R n)) (fun n => cN n = 3) c → (∀ n, Dn n → cN n = 3) → (cN r0 = 3 ∨ 0 < top ∧ S 0 = r0) → fi_w cN N < f →
      wY_finite_61 post J25 x1 yf_place (nI N) yf_names yf_textEnd yf_made yf_entry yf_waiting yf_values yf_bound yf_cells yf_conses yf_lams yf_steps yf_atWork yf_end yf_writtenCount f (nI top) ya_kind ya_up ya_turn ya_depth ya_value ya_below ya_length ya_parameters ya_codes ya_codeCount ya_form C ya_same ya_one ya_two T ya_numbered ya_text ya_ofFunction ya_codeEnd ya_instance ya_token ya_env ya_tag ya_cellEnv ya_boundNext ya_step ya_boundNumber ya_boundTag ya_headTag ya_tailTag ya_number ya_boundValue ya_head ya_tail ya_written := by
  have hlow : ∀ n, n < N → gr_lf (K n) → L n < N := fun n hn h => ((hg.1 n hn).2.2.2.2.2.1 h).2
  have hrow : ∀ n, n < N → gr_rg (K n) → R n < N := fun n hn h => ((hg.1 n hn).2.2.2.2.2.2.1 h).2
  intro f
  induction f with
  | zero => intro top C T cN S c _ _ _ _ _ _ h; omega
  | succ f ih =>
    intro top C T cN S c hF hC hT hM hD h0 hw
    by_cases t0 : top = 0
    · subst t0
      refine br_t (by decide) (nm_e (hJ C T cN c hC (fun n hn => ?_) (fun n hn h5 => (hF.1 n hn).2 h5) hM hD (h0.elim id (fun z => by omega))))
      have h3 := (hF.1 n hn).1
      have h4 : ¬ (cN n = 1 ∨ cN n = 2) := fun z => by obtain ⟨i, hi, _⟩ := hF.2.2.1 n hn z; omega
      omega
    obtain ⟨t, rfl⟩ : ∃ t, top = t + 1 := ⟨top - 1, by omega⟩
    obtain ⟨x1', x2, x3, _, x5⟩ := hF.2.1 t (by omega)
    obtain ⟨v2, vl, vr⟩ := x5 rfl
    have htop : t + 1 ≤ N + 1 := by have := fi_le cN N; rcases hF.2.2.2 with ⟨q, _⟩ | ⟨q, _⟩ <;> omega
    have hTt := hT t (by omega)
    have hCx := hC (S t) x1'
    have cx : (nI (S t)).toNatClampNeg = S t := nI_clamp (by omega)
    obtain ⟨kd, _, _, kv, kc, kl, kr, _⟩ := hg.1 (S t) x1'
    refine br_f (nI_nle (by omega) (by omega)) ?_
    rw [nI_pred]
    refine And.intro (pk_in t 1500 (by omega)) (nm_r (e' := nI (S t)) (by rw [nI_clamp (by omega)]; exact hTt) (And.intro (pk_in (S t) 900 (by omega)) (And.intro (pk_in (S t) 900 (by omega)) (nm_r (e' := upd C (S t) (nI (cN (S t) + 1))) (by rw [cx, hCx, nI_1, nr_b (by omega)]) (nm_r (e' := nI (cN (S t))) (by rw [cx]; exact hCx) ?_)))))
    have hC' : ∀ v, ∀ n, n < N → upd C (S t) (nI v) n = nI (updN cN (S t) v n) := by
      intro v n hn
      by_cases z : n = S t
      · subst z; rw [pk_us, uN_s]
      · rw [pk_un z, uN_n z]; exact hC n hn
    have h3k : ∀ v, v ≤ 2 → (fun n => updN cN (S t) v n = 3) = (fun n => cN n = 3) := by
      intro v hv
      funext n
      by_cases z : n = S t
      · subst z; rw [uN_s]; apply propext; constructor <;> intro h <;> omega
      · rw [uN_n z]
    have hDk : ∀ v, ∀ n, Dn n → v ≤ 3 → updN cN (S t) v n = 3 ∨ n = S t := by
      intro v n hn _
      by_cases z : n = S t
      · exact Or.inr z
      · left; rw [uN_n z]; exact hD n hn
    have hDx : ¬ Dn (S t) := fun z => by have := hD _ z; omega
    have hr0 : S 0 = r0 ∨ cN r0 = 3 := by
      rcases h0 with z | ⟨_, z⟩
      · exact Or.inr z
      · exact Or.inl z
    -- the top is done
    have done : ∀ C1, (∀ n, n < N → C1 n = nI (updN cN (S t) 3 n)) → (cN (S t) = 1 ∧ ¬ gr_rg (K (S t)) ∨ cN (S t) = 2) →
        wY_finite_61 post J25 x1 yf_place (nI N) yf_names yf_textEnd yf_made yf_entry yf_waiting yf_values yf_bound yf_cells yf_conses yf_lams yf_steps yf_atWork yf_end yf_writtenCount f (nI t) ya_kind ya_up ya_turn ya_depth ya_value ya_below ya_length ya_parameters ya_codes ya_codeCount ya_form C1 ya_same ya_one ya_two T ya_numbered ya_text ya_ofFunction ya_codeEnd ya_instance ya_token ya_env ya_tag ya_cellEnv ya_boundNext ya_step ya_boundNumber ya_boundTag ya_headTag ya_tailTag ya_number ya_boundValue ya_head ya_tail ya_written := by
      intro C1 hC1 hv
      have hst := gr_M_step hM (n := S t) x1' (by omega) (by
        intro m hm
        rcases hm with ⟨z | z, rfl⟩ | ⟨z, rfl⟩
        · exact absurd z x2
        · exact ⟨(hg.2 _ (hlow _ x1' z)).1, vl (by omega) z⟩
        · refine ⟨(hg.2 _ (hrow _ x1' z)).1, ?_⟩
          rcases hv with ⟨_, q⟩ | q
          · exact absurd z q
          · exact (vr q).2) kd
      have e3 : (fun n => updN cN (S t) 3 n = 3) = (fun j => cN j = 3 ∨ j = S t) := by
        funext n
        apply propext
        by_cases z : n = S t
        · subst z; rw [uN_s]; exact ⟨fun _ => Or.inr rfl, fun _ => rfl⟩
        · rw [uN_n z]; exact ⟨fun h => Or.inl h, fun h => h.elim id (fun q => absurd q z)⟩
      refine ih t C1 T (updN cN (S t) 3) S _ (fi_done hF hv) hC1 (fun i hi => hT i (by omega)) (by rw [e3]; exact hst) (fun n hn => ?_) ?_ ?_
      · rcases hDk 3 n hn (by omega) with z | z
        · exact z
        · rw [z]; exact uN_s
      · rcases hr0 with z | z
        · by_cases q : t = 0
          · subst q; left; rw [← z]; exact uN_s
          · exact Or.inr ⟨by omega, z⟩
        · left
          by_cases q : r0 = S t
          · rw [q]; exact uN_s
          · rw [uN_n q]; exact z
      · have := fi_w_dn (cN := cN) (N := N) (v := 3) x1' (by omega) (by omega); omega
    -- nothing pushed
    have stay : ∀ v, v = cN (S t) + 1 → (cN (S t) = 0 ∧ v = 1 ∧ (gr_lf (K (S t)) → cN (rt (L (S t))) = 3) ∨ cN (S t) = 1 ∧ v = 2 ∧ gr_rg (K (S t)) ∧ cN (rt (R (S t))) = 3) →
        wY_finite_61 post J25 x1 yf_place (nI N) yf_names yf_textEnd yf_made yf_entry yf_waiting yf_values yf_bound yf_cells yf_conses yf_lams yf_steps yf_atWork yf_end yf_writtenCount f (nI (t + 1)) ya_kind ya_up ya_turn ya_depth ya_value ya_below ya_length ya_parameters ya_codes ya_codeCount ya_form (upd C (S t) (nI (cN (S t) + 1))) ya_same ya_one ya_two T ya_numbered ya_text ya_ofFunction ya_codeEnd ya_instance ya_token ya_env ya_tag ya_cellEnv ya_boundNext ya_step ya_boundNumber ya_boundTag ya_headTag ya_tailTag ya_number ya_boundValue ya_head ya_tail ya_written := by
      intro v hv1 hv
      rw [← hv1]
      refine ih (t + 1) _ T (updN cN (S t) v) S c (fi_stay hF hv) (hC' v) hT (by rw [h3k v (by omega)]; exact hM) (fun n hn => ?_) ?_ ?_
      · exact (hDk v n hn (by omega)).elim id (fun z => absurd (z ▸ hn) hDx)
      · rcases hr0 with z | z
        · exact Or.inr ⟨by omega, z⟩
        · left; rw [uN_n (by intro q; rw [q] at z; omega)]; exact z
      · have := fi_w_dn (cN := cN) (N := N) (v := v) x1' (by omega) (by omega); omega
    -- a child
    have child : ∀ m v, v = cN (S t) + 1 → m < N → (cN (S t) = 0 ∧ v = 1 ∧ gr_lf (K (S t)) ∧ m = L (S t) ∨ cN (S t) = 1 ∧ v = 2 ∧ gr_rg (K (S t)) ∧ m = R (S t)) →
        wY_finite_203 post J25 (wY_finite_61 post J25 x1 yf_place (nI N) yf_names yf_textEnd yf_made yf_entry yf_waiting yf_values yf_bound yf_cells yf_conses yf_lams yf_steps yf_atWork yf_end yf_writtenCount f) x1 (nI (t + 1)) (nI m) yf_place (nI N) yf_names yf_textEnd yf_made yf_entry yf_waiting yf_values yf_bound yf_cells yf_conses yf_lams yf_steps yf_atWork yf_end yf_writtenCount ya_kind ya_up ya_turn ya_depth ya_value ya_below ya_length ya_parameters ya_codes ya_codeCount ya_form (upd C (S t) (nI (cN (S t) + 1))) ya_same ya_one ya_two T ya_numbered ya_text ya_ofFunction ya_codeEnd ya_instance ya_token ya_env ya_tag ya_cellEnv ya_boundNext ya_step ya_boundNumber ya_boundTag ya_headTag ya_tailTag ya_number ya_boundValue ya_head ya_tail ya_written := by
      intro m v hv1 hm hv
      obtain ⟨m1, m2, _⟩ := hg.2 m hm
      have hch : gr_ch K (fun n => rt (L n)) (fun n => rt (R n)) (S t) (rt m) := by
        rcases hv with ⟨_, _, a, rfl⟩ | ⟨_, _, a, rfl⟩
        · exact Or.inl ⟨Or.inr a, rfl⟩
        · exact Or.inr ⟨a, rfl⟩
      refine y_f203 (cN := updN cN (S t) v) hN (by omega) hg hm (fun n hn => ⟨by rw [← hv1]; exact hC' v n hn, ?_⟩) (fun h12 => ?_) (fun hz => ?_) (fun hz => ?_)
      · by_cases z : n = S t
        · subst z; rw [uN_s]; omega
        · rw [uN_n z]; exact (hF.1 n hn).1
      · refine hP0 _ _ (fun r hr => ?_)
        refine fi_cyc hF m1 ?_ hch ((gr_comp hg.2 hlow hrow r).mpr hr)
        by_cases z : rt m = S t
        · exact Or.inr (Or.inr z)
        · rw [uN_n z] at h12; exact h12.elim (fun q => Or.inl q) (fun q => Or.inr (Or.inl q))
      · have hcx : rt m ≠ S t := by intro z; rw [z, uN_s] at hz; omega
        rw [uN_n hcx] at hz
        have hF' := fi_push (v := v) (c := rt m) hF m1 m2 hz hcx (by
          rcases hv with ⟨a, b, d, rfl⟩ | ⟨a, b, d, rfl⟩
          · exact Or.inl ⟨a, b, d, rfl⟩
          · exact Or.inr ⟨a, b, d, rfl⟩)
        rw [← hv1]
        refine ih (t + 1 + 1) _ _ (updN cN (S t) v) _ c hF' (hC' v) (fun i hi => ?_) (by rw [h3k v (by omega)]; exact hM) (fun n hn => ?_) ?_ ?_
        · by_cases z : i = t + 1
          · subst z; rw [pk_us, uN_s]
          · rw [pk_un z, uN_n z]; exact hT i (by omega)
        · exact (hDk v n hn (by omega)).elim id (fun z => absurd (z ▸ hn) hDx)
        · rcases hr0 with z | z
          · exact Or.inr ⟨by omega, by rw [uN_n (by omega)]; exact z⟩
          · left; rw [uN_n (by intro q; rw [q] at z; omega)]; exact z
        · have := fi_w_dn (cN := cN) (N := N) (v := v) x1' (by omega) (by omega); omega
      · refine stay v hv1 ?_
        rcases hv with ⟨a, b, d, e⟩ | ⟨a, b, d, e⟩
        · refine Or.inl ⟨a, b, fun _ => ?_⟩
          rw [← e]
          by_cases z : rt m = S t
          · rw [z, uN_s] at hz; omega
          · rw [uN_n z] at hz; exact hz
        · refine Or.inr ⟨a, b, d, ?_⟩
          rw [← e]
          by_cases z : rt m = S t
          · rw [z, uN_s] at hz; omega
          · rw [uN_n z] at hz; exact hz
    have up3 : upd (upd C (S t) (nI (cN (S t) + 1))) (S t) 3 = upd C (S t) (nI 3) := by
      funext n
      by_cases z : n = S t
      · subst z; rw [pk_us, pk_us]; rfl
      · rw [pk_un z, pk_un z, pk_un z]
    rw [cx]
    have hcase : cN (S t) = 0 ∨ cN (S t) = 1 ∨ cN (S t) = 2 := by omega
    rcases hcase with c0 | c1 | c2
    · -- colour 0
      rw [c0] at child stay ⊢
      refine br_t rfl (And.intro (pk_in (S t) 900 (by omega)) ?_)
      by_cases hl : gr_lf (K (S t))
      · have v10 : K (S t) ≠ 10 := by intro z; rw [z] at hl; rcases hl with q | q | q <;> exact absurd q (by decide)
        obtain ⟨l1, l2⟩ := kl hl
        have hf : (1 : Int32) < ya_form (S t) := by
          rw [kc x2 v10]; rcases hl with q | q | q <;> (rw [q]; decide)
        refine br_t hf ?_
        refine br_f (by decide) (br_f (by decide) (br_f (by decide) (br_t rfl (And.intro (pk_in (S t) 900 (by omega)) ?_))))
        rw [cx, l1]
        exact child (L (S t)) 1 rfl l2 (Or.inl ⟨rfl, rfl, hl, rfl⟩)
      · have hf : ¬ (1 : Int32) < ya_form (S t) := by
          by_cases v10 : K (S t) = 10
          · rw [kv v10]; decide
          · rw [kc x2 v10]
            have := (cn_1 (kd_cn kd x2 v10)).mpr hl
            exact Int32.not_lt.mpr this
        refine br_f hf (br_f (by decide) ?_)
        refine br_f (by decide) (br_t rfl (br_f (by decide) (br_t rfl ?_)))
        exact stay 1 rfl (Or.inl ⟨rfl, rfl, fun z => absurd z hl⟩)
    · -- colour 1
      rw [c1] at child stay up3 ⊢
      refine br_f (by decide) (br_t rfl (And.intro (pk_in (S t) 900 (by omega)) ?_))
      rw [cx]
      have fin : ¬ gr_rg (K (S t)) → wY_finite_138 post J25 (wY_finite_61 post J25 x1 yf_place (nI N) yf_names yf_textEnd yf_made yf_entry yf_waiting yf_values yf_bound yf_cells yf_conses yf_lams yf_steps yf_atWork yf_end yf_writtenCount f) x1 (nI (t + 1)) (nI (S t)) (nI 1) yf_place (nI N) yf_names yf_textEnd yf_made yf_entry yf_waiting yf_values yf_bound yf_cells yf_conses yf_lams yf_steps yf_atWork yf_end yf_writtenCount ya_kind ya_up ya_turn ya_depth ya_value ya_below ya_length ya_parameters ya_codes ya_codeCount ya_form (upd C (S t) (nI (1 + 1))) ya_same ya_one ya_two T ya_numbered ya_text ya_ofFunction ya_codeEnd ya_instance ya_token ya_env ya_tag ya_cellEnv ya_boundNext ya_step ya_boundNumber ya_boundTag ya_headTag ya_tailTag ya_number ya_boundValue ya_head ya_tail ya_written := by
        intro hr
        refine br_f (by decide) (br_t rfl (br_t rfl (And.intro (pk_in (S t) 900 (by omega)) (nm_r (e' := upd C (S t) (nI 3)) (by rw [cx]; exact up3) (nm_r (pk_m1 t) ?_)))))
        exact done _ (hC' 3) (Or.inl ⟨c1, hr⟩)
      have des : gr_rg (K (S t)) → wY_finite_134 post J25 (wY_finite_61 post J25 x1 yf_place (nI N) yf_names yf_textEnd yf_made yf_entry yf_waiting yf_values yf_bound yf_cells yf_conses yf_lams yf_steps yf_atWork yf_end yf_writtenCount f) x1 (nI (t + 1)) (nI (S t)) (nI 1) yf_place (nI N) yf_names yf_textEnd yf_made yf_entry yf_waiting yf_values yf_bound yf_cells yf_conses yf_lams yf_steps yf_atWork yf_end yf_writtenCount ya_kind ya_up ya_turn ya_depth ya_value ya_below ya_length ya_parameters ya_codes ya_codeCount ya_form (upd C (S t) (nI (1 + 1))) ya_same ya_one ya_two T ya_numbered ya_text ya_ofFunction ya_codeEnd ya_instance ya_token ya_env ya_tag ya_cellEnv ya_boundNext ya_step ya_boundNumber ya_boundTag ya_headTag ya_tailTag ya_number ya_boundValue ya_head ya_tail ya_written := by
        intro hr
        obtain ⟨r1, r2⟩ := kr hr
        refine br_f (by decide) (br_f (by decide) (br_f (by decide) (br_f (by decide) (And.intro (pk_in (S t) 900 (by omega)) ?_))))
        rw [cx, r1]
        exact child (R (S t)) 2 rfl r2 (Or.inr ⟨rfl, rfl, hr, rfl⟩)
      have hform : gr_rg (K (S t)) ↔ (ya_form (S t) = 2 ∨ ya_form (S t) = 4) := by
        by_cases v10 : K (S t) = 10
        · rw [v10, kv v10]; unfold gr_rg; decide
        · rw [kc x2 v10]; exact Iff.rfl
      refine br_c (fun z => des (hform.mpr (Or.inl z))) (fun z2 => And.intro (pk_in (S t) 900 (by omega)) (br_c (fun z => des (hform.mpr (Or.inr z))) (fun z4 => fin (fun q => (hform.mp q).elim z2 z4))))
    · -- colour 2
      rw [c2] at up3 ⊢
      refine br_f (by decide) (br_f (by decide) (br_t rfl (And.intro (pk_in (S t) 900 (by omega)) (nm_r (e' := upd C (S t) (nI 3)) (by rw [cx]; exact up3) (nm_r (pk_m1 t) ?_)))))
      exact done _ (hC' 3) (Or.inr c2)

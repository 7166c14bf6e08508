variable {f_saidPlace f_instanceCount f_nodeCount f_equationCount f_stackCount f_wordCount f_depth f_cellCount f_consCount f_closureCount f_stepCount f_runAnswer f_writtenCount : Int32} {a_kinds a_values a_spans a_bounds a_binders a_lengths a_parameterCounts a_typeCodes a_typeLengths a_instanceFunctions a_nodeKinds a_nodeLefts a_nodeRights a_nodeSizes a_equationLefts a_equationRights a_stackLefts a_stackRights a_words a_boundWords a_cellFirsts a_cellSeconds a_closureTokens a_closureWords a_written : Nat → Int32}
theorem ld_kd {Lc : List Nat} {tau : Nat → mt_T} (h : tk_at Lc tau) {j : Nat} (hj : j < Lc.length) : gr_kd (ld_k Lc j) ∧ (Lc.getD j 0 < 10 → (gr_lf (nI (Lc.getD j 0)) ↔ 2 ≤ Lc.getD j 0) ∧ (gr_rg (nI (Lc.getD j 0)) ↔ Lc.getD j 0 = 2 ∨ Lc.getD j 0 = 4)) := by
  unfold ld_k
  rcases tk_c h hj with ⟨z, _⟩ | ⟨z, _⟩ | ⟨z, _⟩ | ⟨z, _⟩ | ⟨z | z, _⟩
  · rw [z]; exact ⟨Or.inl rfl, fun _ => ⟨by unfold gr_lf; decide, by unfold gr_rg; decide⟩⟩
  · rw [z]; exact ⟨Or.inr (Or.inl rfl), fun _ => ⟨by unfold gr_lf; decide, by unfold gr_rg; decide⟩⟩
  · refine ⟨?_, fun q => by omega⟩
    rw [if_neg (by omega)]
    split
    · exact kd_10
    · exact Or.inr (Or.inr (Or.inr (Or.inr (Or.inr (Or.inl rfl)))))
  · rw [z]; exact ⟨kd_3, fun _ => ⟨by unfold gr_lf; decide, by unfold gr_rg; decide⟩⟩
  · rw [z]; exact ⟨kd_2, fun _ => ⟨by unfold gr_lf; decide, by unfold gr_rg; decide⟩⟩
  · rw [z]; exact ⟨kd_4, fun _ => ⟨by unfold gr_lf; decide, by unfold gr_rg; decide⟩⟩
theorem ni_big {a : Nat} (h : 10 ≤ a) (h2 : a < 100) : ¬ gr_lf (nI a) ∧ ¬ gr_rg (nI a) := by
  have e : ∀ b, b < 10 → nI a ≠ nI b := fun b hb z => by have := (nI_eq (by omega) (by omega)).mp z; omega
  refine ⟨?_, ?_⟩
  · rintro (z | z | z)
    · exact e 3 (by omega) z
    · exact e 2 (by omega) z
    · exact e 4 (by omega) z
  · rintro (z | z)
    · exact e 2 (by omega) z
    · exact e 4 (by omega) z
theorem up_up {f : Nat → Int32} {k : Nat} {x y : Int32} : upd (upd f k x) k y = upd f k y := by
  funext j
  by_cases z : j = k
  · subst z; rw [pk_us, pk_us]
  · rw [pk_un z, pk_un z, pk_un z]
theorem x_load14 {post : Int32 → SX → Prop} {B row : Nat} {Lc : List Nat} {tau : Nat → mt_T} (hr : rw_ok row a_typeCodes a_typeLengths Lc) (ht : tk_at Lc tau) (hB : B + Lc.length ≤ 1126)
    (hP : ∀ K' nl' nr' sz', (∀ n, n < B → K' n = a_nodeKinds n ∧ nl' n = a_nodeLefts n ∧ nr' n = a_nodeRights n) → (∀ j, j < Lc.length → ld_p B Lc tau K' nl' nr' sz' j) →
      post (nI B) (f_saidPlace, f_instanceCount, (nI (B + Lc.length)), f_equationCount, f_stackCount, f_wordCount, f_depth, f_cellCount, f_consCount, f_closureCount, f_stepCount, f_runAnswer, f_writtenCount, a_kinds, a_values, a_spans, a_bounds, a_binders, a_lengths, a_parameterCounts, a_typeCodes, a_typeLengths, a_instanceFunctions, K', nl', nr', sz', a_equationLefts, a_equationRights, a_stackLefts, a_stackRights, a_words, a_boundWords, a_cellFirsts, a_cellSeconds, a_closureTokens, a_closureWords, a_written)) :
    ∀ i f K nl nr sz, i ≤ Lc.length → i < f → (∀ n, n < B → K n = a_nodeKinds n ∧ nl n = a_nodeLefts n ∧ nr n = a_nodeRights n) → (∀ j, i ≤ j → j < Lc.length → ld_p B Lc tau K nl nr sz j) →
      wX_loadRow_14 post (nI row) (nI B) f_saidPlace f_instanceCount f_nodeCount f_equationCount f_stackCount f_wordCount f_depth f_cellCount f_consCount f_closureCount f_stepCount f_runAnswer f_writtenCount f (nI i + (-1)) a_kinds a_values a_spans a_bounds a_binders a_lengths a_parameterCounts a_typeCodes a_typeLengths a_instanceFunctions K nl nr sz a_equationLefts a_equationRights a_stackLefts a_stackRights a_words a_boundWords a_cellFirsts a_cellSeconds a_closureTokens a_closureWords a_written := by
  have hr' := hr
  obtain ⟨h1, h2, h3, h4⟩ := hr'
  intro i
  induction i with
  | zero =>
    intro f K nl nr sz hi hf hlow hin
    obtain ⟨f, rfl⟩ : ∃ g, f = g + 1 := ⟨f - 1, by omega⟩
    refine br_t (by decide) (And.intro (pk_in row 18 h1) (nm_r (e' := nI (B + Lc.length)) (by rw [nI_clamp (by omega), h3, nI_add]) ?_))
    exact hP K nl nr sz hlow (fun j hj => hin j (by omega) hj)
  | succ k ih =>
    intro f K nl nr sz hi hf hlow hin
    obtain ⟨f, rfl⟩ : ∃ g, f = g + 1 := ⟨f - 1, by omega⟩
    rw [pk_m1 k]
    obtain ⟨e1, e2⟩ := h4 k (by omega)
    have cx : (nI (B + k)).toNatClampNeg = B + k := nI_clamp (by omega)
    have hE := (ht k (by omega)).2.2.1
    refine br_f (nI_pos (by omega)) (nm_r (nI_add B k) (And.intro (pk_in (row * 42 + k) 756 (by omega) (ix_42 row k)) (nm_r (e' := nI (Lc.getD k 0)) (by rw [ix_42, nI_clamp (by omega), e1]) ?_)))
    -- the last step: the size
    have step : ∀ (z0 : Nat) (K1 nl1 nr1 : Nat → Int32), (∀ n, n ≠ B + k → K1 n = K n ∧ nl1 n = nl n ∧ nr1 n = nr n) →
        (gr_rg (nI (Lc.getD k 0)) → z0 = 1 + (mt_enc (tau (k + 1))).length) → (¬ gr_rg (nI (Lc.getD k 0)) → z0 = (mt_enc (tau k)).length) → z0 < 100 →
        (∀ sz1, sz1 (B + k) = nI (mt_enc (tau k)).length → ld_p B Lc tau K1 nl1 nr1 sz1 k) →
        wX_loadRow_152 post (wX_loadRow_14 post (nI row) (nI B) f_saidPlace f_instanceCount f_nodeCount f_equationCount f_stackCount f_wordCount f_depth f_cellCount f_consCount f_closureCount f_stepCount f_runAnswer f_writtenCount f) (nI row) (nI B) (nI k) (nI (B + k)) (nI (Lc.getD k 0)) (nI z0) f_saidPlace f_instanceCount f_nodeCount f_equationCount f_stackCount f_wordCount f_depth f_cellCount f_consCount f_closureCount f_stepCount f_runAnswer f_writtenCount a_kinds a_values a_spans a_bounds a_binders a_lengths a_parameterCounts a_typeCodes a_typeLengths a_instanceFunctions K1 nl1 nr1 sz a_equationLefts a_equationRights a_stackLefts a_stackRights a_words a_boundWords a_cellFirsts a_cellSeconds a_closureTokens a_closureWords a_written := by
      intro z0 K1 nl1 nr1 hK1 hz1 hz2 hz3 hpk
      have fin : ∀ v, v = nI (mt_enc (tau k)).length → wX_loadRow_14 post (nI row) (nI B) f_saidPlace f_instanceCount f_nodeCount f_equationCount f_stackCount f_wordCount f_depth f_cellCount f_consCount f_closureCount f_stepCount f_runAnswer f_writtenCount f (nI k + (-1)) a_kinds a_values a_spans a_bounds a_binders a_lengths a_parameterCounts a_typeCodes a_typeLengths a_instanceFunctions K1 nl1 nr1 (upd sz (B + k) v) a_equationLefts a_equationRights a_stackLefts a_stackRights a_words a_boundWords a_cellFirsts a_cellSeconds a_closureTokens a_closureWords a_written := by
        intro v hv
        refine ih f K1 nl1 nr1 _ (by omega) (by omega) (fun n hn => ?_) (fun j hj hl => ?_)
        · obtain ⟨q1, q2, q3⟩ := hK1 n (by omega)
          rw [q1, q2, q3]; exact hlow n hn
        · by_cases z : j = k
          · subst z; exact hpk _ (by rw [pk_us]; exact hv)
          · obtain ⟨q1, q2, q3⟩ := hK1 (B + j) (by omega)
            exact ld_keep (hin j (by omega) hl) q1 q2 q3 (pk_un (by omega))
      refine x_hasRight (fun hg => br_f n1_0 ?_) (fun hg => br_t rfl ?_)
      · have hz := hz1 hg
        have h10 : Lc.getD k 0 < 10 := by
          rcases Nat.lt_or_ge (Lc.getD k 0) 10 with q | q
          · exact q
          · exact absurd hg (ni_big q e2).2
        have h24 := ((ld_kd ht (by omega)).2 h10).2.mp hg
        rcases tk_c ht (j := k) (by omega) with ⟨z, _⟩ | ⟨z, _⟩ | ⟨z, _⟩ | ⟨z, _⟩ | ⟨_, tb, tl⟩
        · omega
        · omega
        · omega
        · omega
        · have pz := (hin (k + 1 + (mt_enc (tau (k + 1))).length) (by omega) tl).2.2.2
          have ez : nI (B + k) + nI z0 = nI (B + (k + 1 + (mt_enc (tau (k + 1))).length)) := by rw [nI_add, hz]; exact congrArg nI (by omega)
          refine And.intro (pk_in (B + (k + 1 + (mt_enc (tau (k + 1))).length)) 1126 (by omega) ez) (And.intro (pk_in (B + k) 1126 (by omega)) (nm_r (e' := upd sz (B + k) (nI (mt_enc (tau k)).length)) ?_ (nm_e (fin _ rfl))))
          rw [cx, ez, nI_clamp (by omega), pz, nI_add]
          congr 2
          rw [tb]
          have h3 : ¬ Lc.getD k 0 = 3 := by omega
          simp only [mt_enc, if_neg h3, List.length_cons, List.length_append]
          omega
      · refine And.intro (pk_in (B + k) 1126 (by omega)) (nm_r (e' := upd sz (B + k) (nI z0)) (by rw [cx]) (nm_e (fin _ (by rw [hz2 hg]))))
    -- all but the size
    have mid : ∀ z0 : Nat, z0 < 100 → (gr_rg (nI (Lc.getD k 0)) → z0 = 1 + (mt_enc (tau (k + 1))).length) → (¬ gr_rg (nI (Lc.getD k 0)) → z0 = (mt_enc (tau k)).length) →
        wX_loadRow_60 post (wX_loadRow_14 post (nI row) (nI B) f_saidPlace f_instanceCount f_nodeCount f_equationCount f_stackCount f_wordCount f_depth f_cellCount f_consCount f_closureCount f_stepCount f_runAnswer f_writtenCount f) (nI row) (nI B) (nI k) (nI (B + k)) (nI (Lc.getD k 0)) (nI z0) f_saidPlace f_instanceCount f_nodeCount f_equationCount f_stackCount f_wordCount f_depth f_cellCount f_consCount f_closureCount f_stepCount f_runAnswer f_writtenCount a_kinds a_values a_spans a_bounds a_binders a_lengths a_parameterCounts a_typeCodes a_typeLengths a_instanceFunctions K nl nr sz a_equationLefts a_equationRights a_stackLefts a_stackRights a_words a_boundWords a_cellFirsts a_cellSeconds a_closureTokens a_closureWords a_written := by
      intro z0 hz0 hz1 hz2
      refine And.intro (pk_in (B + k) 1126 (by omega)) (nm_r (e' := upd K (B + k) (nI (Lc.getD k 0))) (by rw [cx]) (And.intro (pk_in (B + k) 1126 (by omega)) (nm_r (e' := upd nl (B + k) (nI (B + k + 1))) (by rw [cx, nI_1]) (And.intro (pk_in (B + k) 1126 (by omega)) (nm_r (e' := upd nr (B + k) (nI (B + k + z0))) (by rw [cx, nI_add]) ?_)))))
      refine pk_lt (Lc.getD k 0) 10 (fun hlt => ?_) (fun hge => ?_)
      · refine step z0 _ _ _ (fun n hn => ⟨pk_un hn, pk_un hn, pk_un hn⟩) hz1 hz2 hz0 (fun sz1 hs => ?_)
        have hk : ld_k Lc k = nI (Lc.getD k 0) := if_pos hlt
        have hne : ¬ nI (Lc.getD k 0) = 10 := fun z => by have := (nI_eq (b := 10) (by omega) (by omega)).mp z; omega
        refine ⟨by rw [pk_us, hk], ?_, fun hg => ?_, hs⟩
        · rw [pk_us, hk, if_neg hne, ld_l, if_pos hlt]
        · rw [pk_us, ld_r, hz1 (by rw [← hk]; exact hg)]; exact congrArg nI (by omega)
      · have hmem := gd_mem Lc k (by omega)
        have hlt := cn_ix_lt Lc hmem
        obtain ⟨nb1, nb2⟩ := ni_big hge e2
        refine x_firstWithCode hr hmem e2 (nm_r (nI_add B _) (pk_eq (B + cn_ix (Lc.getD k 0) Lc) (B + k) (fun z => ?_) (fun z => ?_)))
        · have hk : ld_k Lc k = 10 := by unfold ld_k; rw [if_neg (by omega), if_pos (by omega)]
          refine And.intro (pk_in (B + k) 1126 (by omega)) (nm_r (e' := upd K (B + k) 10) (by rw [cx, up_up]) (br_t (by rw [z]) (And.intro (pk_in (B + k) 1126 (by omega)) (nm_r (e' := upd nl (B + k) (-1)) (by rw [cx, up_up]) ?_))))
          refine step z0 _ _ _ (fun n hn => ⟨pk_un hn, pk_un hn, pk_un hn⟩) hz1 hz2 hz0 (fun sz1 hs => ?_)
          refine ⟨by rw [pk_us, hk], by rw [pk_us, hk, if_pos rfl], fun hg => ?_, hs⟩
          rw [hk] at hg; exact absurd hg nrg10
        · have hk : ld_k Lc k = 5 := by unfold ld_k; rw [if_neg (by omega), if_neg (by omega)]
          refine And.intro (pk_in (B + k) 1126 (by omega)) (nm_r (e' := upd K (B + k) 5) (by rw [cx, up_up]) (br_f (fun q => z ((nI_eq (by omega) (by omega)).mp q)) (And.intro (pk_in (B + k) 1126 (by omega)) (nm_r (e' := upd nl (B + k) (nI (B + cn_ix (Lc.getD k 0) Lc))) (by rw [cx, up_up]) ?_))))
          refine step z0 _ _ _ (fun n hn => ⟨pk_un hn, pk_un hn, pk_un hn⟩) hz1 hz2 hz0 (fun sz1 hs => ?_)
          refine ⟨by rw [pk_us, hk], ?_, fun hg => ?_, hs⟩
          · rw [pk_us, hk, if_neg (by decide), ld_l, if_neg (by omega)]
          · rw [hk] at hg; rcases hg with q | q <;> exact absurd q (by decide)
    refine x_hasLeft (fun hl => br_f n1_0 ?_) (fun hl => br_t rfl ?_)
    · have h10 : Lc.getD k 0 < 10 := by
        rcases Nat.lt_or_ge (Lc.getD k 0) 10 with q | q
        · exact q
        · exact absurd hl (ni_big q e2).1
      have h2' := ((ld_kd ht (by omega)).2 h10).1.mp hl
      have hk1 : k + 1 < Lc.length ∧ (¬ gr_rg (nI (Lc.getD k 0)) → 1 + (mt_enc (tau (k + 1))).length = (mt_enc (tau k)).length) := by
        rcases tk_c ht (j := k) (by omega) with ⟨z, _⟩ | ⟨z, _⟩ | ⟨z, _⟩ | ⟨z, tb, tl⟩ | ⟨z, tb, tl⟩
        · omega
        · omega
        · omega
        · refine ⟨tl, fun _ => ?_⟩
          rw [tb]; simp only [mt_enc, if_true, List.append_nil, List.length_cons]; omega
        · have := mt_enc_ne (tau (k + 1))
          exact ⟨by omega, fun q => absurd (((ld_kd ht (by omega)).2 h10).2.mpr z) q⟩
      have pz := (hin (k + 1) (by omega) hk1.1).2.2.2
      have hE1 := (ht (k + 1) hk1.1).2.2.1
      refine And.intro (pk_in (B + k + 1) 1126 (by omega) (nI_1 _)) ?_
      have e3 : (1 : Int32) + sz (nI (B + k) + 1).toNatClampNeg = nI (1 + (mt_enc (tau (k + 1))).length) := by
        rw [nI_1, nI_clamp (by omega)]
        have : B + k + 1 = B + (k + 1) := by omega
        rw [this, pz]; exact nI_add 1 _
      rw [e3]
      exact mid _ (by omega) (fun _ => rfl) hk1.2
    · refine mid 1 (by omega) (fun hg => absurd (Or.inr hg) hl) (fun _ => ?_)
      rcases tk_c ht (j := k) (by omega) with ⟨_, tb⟩ | ⟨_, tb⟩ | ⟨_, tb⟩ | ⟨z, _⟩ | ⟨z, _⟩
      · rw [tb]; rfl
      · rw [tb]; rfl
      · rw [tb]; rfl
      · rw [z] at hl; exact absurd (Or.inl rfl) hl
      · rcases z with z | z
        · rw [z] at hl; exact absurd (Or.inr (Or.inl rfl)) hl
        · rw [z] at hl; exact absurd (Or.inr (Or.inr rfl)) hl

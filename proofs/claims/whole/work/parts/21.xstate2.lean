variable {f_saidPlace f_instanceCount f_nodeCount f_equationCount f_stackCount f_wordCount f_depth f_cellCount f_consCount f_closureCount f_stepCount f_runAnswer f_writtenCount : Int32} {a_kinds a_values a_spans a_bounds a_binders a_lengths a_parameterCounts a_typeCodes a_typeLengths a_instanceFunctions a_nodeKinds a_nodeLefts a_nodeRights a_nodeSizes a_equationLefts a_equationRights a_stackLefts a_stackRights a_words a_boundWords a_cellFirsts a_cellSeconds a_closureTokens a_closureWords a_written : Nat → Int32}
theorem q0_ok {N : Nat} {el er : Nat → Int32} : eq_ok N 0 el er (fun _ => 0) (fun _ => 0) := fun i hi => by omega
theorem sw2 {x y : mt_T} (hx : mt_wf x) (hy : mt_wf y) : mt_wf (.branch 2 x y) := Or.inr ⟨Or.inl rfl, hx, hy⟩
theorem sw4 {x y : mt_T} (hx : mt_wf x) (hy : mt_wf y) : mt_wf (.branch 4 x y) := Or.inr ⟨Or.inr rfl, hx, hy⟩
theorem sw3 {x : mt_T} (hx : mt_wf x) : mt_wf (.branch 3 x (.leaf 0)) := Or.inl ⟨rfl, hx, rfl⟩
theorem d2_e {N : Nat} {a b : Nat} {r : Nat → mt_T} : ((2 : Int32) = 10 ∨ r N = gr_at (fun _ => 2) (fun _ => a) (fun _ => b) r 0) ↔ r N = .branch 2 (r a) (r b) :=
  ⟨fun h => h.elim (fun z => absurd z (by decide)) (fun z => z.trans (gr_at_2 (K := fun _ => 2) rfl)), fun h => Or.inr (h.trans (gr_at_2 (K := fun _ => 2) (L := fun _ => a) (R := fun _ => b) (r := r) (n := 0) rfl).symm)⟩
theorem d4_e {N : Nat} {a b : Nat} {r : Nat → mt_T} : ((4 : Int32) = 10 ∨ r N = gr_at (fun _ => 4) (fun _ => a) (fun _ => b) r 0) ↔ r N = .branch 4 (r a) (r b) :=
  ⟨fun h => h.elim (fun z => absurd z (by decide)) (fun z => z.trans (gr_at_4 (K := fun _ => 4) rfl)), fun h => Or.inr (h.trans (gr_at_4 (K := fun _ => 4) (L := fun _ => a) (R := fun _ => b) (r := r) (n := 0) rfl).symm)⟩
theorem d3_e {N : Nat} {a b : Nat} {r : Nat → mt_T} : ((3 : Int32) = 10 ∨ r N = gr_at (fun _ => 3) (fun _ => a) (fun _ => b) r 0) ↔ r N = .branch 3 (r a) (.leaf 0) :=
  ⟨fun h => h.elim (fun z => absurd z (by decide)) (fun z => z.trans (gr_at_3 (K := fun _ => 3) rfl)), fun h => Or.inr (h.trans (gr_at_3 (K := fun _ => 3) (L := fun _ => a) (R := fun _ => b) (r := r) (n := 0) rfl).symm)⟩
/-- FIRST, SECOND, LAM -/
theorem x_stateOne {post : SX → Prop} {N M t k w P : Nat} {Lc : List Nat} {c : Nat → Nat} {own : Bool} {L R rt ds EL0 ER0 : Nat → Nat} {e0 : Nat} (hN : 76 ≤ N) (hM : N + 2 ≤ M) (hM2 : M ≤ 1126) (ht : t < 24) (h0 : c 0 = t + 1)
    (he0 : e0 ≤ 4) (hq0 : eq_ok N e0 a_equationLefts a_equationRights EL0 ER0) (hg : xg_ok N a_nodeKinds a_nodeLefts a_nodeRights L R rt ds) (hk : k = 6 ∨ k = 7 ∨ k = 15)
    (hP : xs_post post N M f_saidPlace f_instanceCount (nI N) (nI e0) f_stackCount f_wordCount f_depth f_cellCount f_consCount f_closureCount f_stepCount f_runAnswer f_writtenCount a_kinds a_values a_spans a_bounds a_binders a_lengths a_parameterCounts a_typeCodes a_typeLengths a_instanceFunctions a_nodeKinds a_nodeLefts a_nodeRights a_nodeSizes a_equationLefts a_equationRights a_stackLefts a_stackRights a_words a_boundWords a_cellFirsts a_cellSeconds a_closureTokens a_closureWords a_written e0 L R EL0 ER0 (ru_k k t c w own P Lc)) :
    wpX_stateOne post (f_saidPlace, f_instanceCount, (nI N), (nI e0), f_stackCount, f_wordCount, f_depth, f_cellCount, f_consCount, f_closureCount, f_stepCount, f_runAnswer, f_writtenCount, a_kinds, a_values, a_spans, a_bounds, a_binders, a_lengths, a_parameterCounts, a_typeCodes, a_typeLengths, a_instanceFunctions, a_nodeKinds, a_nodeLefts, a_nodeRights, a_nodeSizes, a_equationLefts, a_equationRights, a_stackLefts, a_stackRights, a_words, a_boundWords, a_cellFirsts, a_cellSeconds, a_closureTokens, a_closureWords, a_written) (nI k) (nI t) := by
  refine nm_r (nI_1 t) ?_
  rcases hk with rfl | rfl | rfl
  · obtain ⟨rt1, ds1, g1, s1⟩ := xg_new hg 10 (-1) (-1) 0 0 kd_10 n10_5 (fun z => absurd z nlf10) (fun z => absurd z nrg10) (fun _ => rfl)
    obtain ⟨rt2, ds2, g2, s2⟩ := xg_new g1 2 (nI t) (nI N) t N kd_2 n2_5 (fun _ => ⟨rfl, by omega⟩) (fun _ => ⟨rfl, by omega⟩) (fun z => absurd z (by decide))
    refine br_f (by decide) (x_newNode (by omega) (br_t rfl (br_t rfl (x_newNode (by omega) (x_equate (by omega) (hP (N + 1 + 1) (e0 + 1) _ _ _ _ _ _ _ _ rt2 ds2 _ _ (by omega) (by omega) (by omega) g2 (eq_up (eq_mono hq0 (by omega)) (by omega) (by omega)) ?_))))))
    refine st_2 hg hq0 (cu_eq (cu_new (cu_new cu_e s1) s2)) (fun r hwf h => ?_) (fun r hwf h hr => ?_)
    · obtain ⟨⟨⟨h1, _⟩, h2⟩, h3⟩ := h
      exact ⟨h1, r N, hwf N, by rw [h0, h3]; exact d2_e.mp h2⟩
    · obtain ⟨x, hx, e⟩ := hr
      refine ⟨gr_put (gr_put r N x) (N + 1) (.branch 2 (r t) x), pt_wf (pt_wf hwf hx) (sw2 (hwf t) hx), fun j hj => ?_, fun h' => ⟨⟨⟨h', Or.inl rfl⟩, d2_e.mpr ?_⟩, ?_⟩⟩
      · rw [gr_put_ne (by omega), gr_put_ne (by omega)]
      · rw [gr_put_eq, gr_put_ne (by omega), gr_put_ne (by omega), gr_put_ne (by omega), gr_put_eq]
      · rw [gr_put_eq, gr_put_ne (by omega), gr_put_ne (by omega), ← h0]; exact e
  · obtain ⟨rt1, ds1, g1, s1⟩ := xg_new hg 10 (-1) (-1) 0 0 kd_10 n10_5 (fun z => absurd z nlf10) (fun z => absurd z nrg10) (fun _ => rfl)
    obtain ⟨rt2, ds2, g2, s2⟩ := xg_new g1 2 (nI N) (nI t) N t kd_2 n2_5 (fun _ => ⟨rfl, by omega⟩) (fun _ => ⟨rfl, by omega⟩) (fun z => absurd z (by decide))
    refine br_f (by decide) (x_newNode (by omega) (br_f (by decide) (br_f (by decide) (x_newNode (by omega) (x_equate (by omega) (hP (N + 1 + 1) (e0 + 1) _ _ _ _ _ _ _ _ rt2 ds2 _ _ (by omega) (by omega) (by omega) g2 (eq_up (eq_mono hq0 (by omega)) (by omega) (by omega)) ?_))))))
    refine st_2 hg hq0 (cu_eq (cu_new (cu_new cu_e s1) s2)) (fun r hwf h => ?_) (fun r hwf h hr => ?_)
    · obtain ⟨⟨⟨h1, _⟩, h2⟩, h3⟩ := h
      exact ⟨h1, r N, hwf N, by rw [h0, h3]; exact d2_e.mp h2⟩
    · obtain ⟨x, hx, e⟩ := hr
      refine ⟨gr_put (gr_put r N x) (N + 1) (.branch 2 x (r t)), pt_wf (pt_wf hwf hx) (sw2 hx (hwf t)), fun j hj => ?_, fun h' => ⟨⟨⟨h', Or.inl rfl⟩, d2_e.mpr ?_⟩, ?_⟩⟩
      · rw [gr_put_ne (by omega), gr_put_ne (by omega)]
      · rw [gr_put_eq, gr_put_ne (j := N) (by omega), gr_put_eq, gr_put_ne (by omega), gr_put_ne (by omega)]
      · rw [gr_put_eq, gr_put_ne (by omega), gr_put_ne (by omega), ← h0]; exact e
  · rw [ix_2]
    obtain ⟨rt1, ds1, g1, s1⟩ := xg_new hg 4 (nI (24 + 2 * t)) (nI (t + 1)) (24 + 2 * t) (t + 1) kd_4 n4_5 (fun _ => ⟨rfl, by omega⟩) (fun _ => ⟨rfl, by omega⟩) (fun z => absurd z (by decide))
    refine br_t rfl (x_newNode (by omega) (x_equate (by omega) (hP (N + 1) (e0 + 1) _ _ _ _ _ _ _ _ rt1 ds1 _ _ (by omega) (by omega) (by omega) g1 (eq_up (eq_mono hq0 (by omega)) (by omega) (by omega)) ?_)))
    refine st_2 hg hq0 (cu_eq (cu_new cu_e s1)) (fun r hwf h => ?_) (fun r hwf h hr => ?_)
    · obtain ⟨⟨h1, h2⟩, h3⟩ := h
      exact ⟨h1, by show r t = .branch 4 (r (24 + 2 * t)) (r (c 0)); rw [h0, h3]; exact d4_e.mp h2⟩
    · refine ⟨gr_put r N (.branch 4 (r (24 + 2 * t)) (r (t + 1))), pt_wf hwf (sw4 (hwf _) (hwf _)), fun j hj => gr_put_ne (by omega), fun h' => ⟨⟨h', d4_e.mpr ?_⟩, ?_⟩⟩
      · rw [gr_put_eq, gr_put_ne (by omega), gr_put_ne (by omega)]
      · rw [gr_put_eq, gr_put_ne (by omega), ← h0]; exact hr
/-- PAIR, CONS, ADD, LESS, LET, APP -/
theorem x_stateTwo {post : SX → Prop} {N M t k s w P : Nat} {Lc : List Nat} {c : Nat → Nat} {own : Bool} {L R rt ds EL0 ER0 : Nat → Nat} {e0 : Nat} (hN : 76 ≤ N) (hM : N + 2 ≤ M) (hM2 : M ≤ 1126) (ht : t < 24) (hs : s < 24) (ht1 : t + 1 < 24) (h0 : c 0 = t + 1) (h1 : c 1 = s)
    (he0 : e0 ≤ 4) (hq0 : eq_ok N e0 a_equationLefts a_equationRights EL0 ER0) (hg : xg_ok N a_nodeKinds a_nodeLefts a_nodeRights L R rt ds) (hI : ∀ r, (∀ n, mt_wf (r n)) → A0 N e0 a_nodeKinds L R EL0 ER0 r → r 74 = .leaf 0 ∧ r 75 = .leaf 1) (hk : k = 5 ∨ k = 9 ∨ k = 12 ∨ k = 13 ∨ k = 14 ∨ k = 16)
    (hP : xs_post post N M f_saidPlace f_instanceCount (nI N) (nI e0) f_stackCount f_wordCount f_depth f_cellCount f_consCount f_closureCount f_stepCount f_runAnswer f_writtenCount a_kinds a_values a_spans a_bounds a_binders a_lengths a_parameterCounts a_typeCodes a_typeLengths a_instanceFunctions a_nodeKinds a_nodeLefts a_nodeRights a_nodeSizes a_equationLefts a_equationRights a_stackLefts a_stackRights a_words a_boundWords a_cellFirsts a_cellSeconds a_closureTokens a_closureWords a_written e0 L R EL0 ER0 (ru_k k t c w own P Lc)) :
    wpX_stateTwo post (f_saidPlace, f_instanceCount, (nI N), (nI e0), f_stackCount, f_wordCount, f_depth, f_cellCount, f_consCount, f_closureCount, f_stepCount, f_runAnswer, f_writtenCount, a_kinds, a_values, a_spans, a_bounds, a_binders, a_lengths, a_parameterCounts, a_typeCodes, a_typeLengths, a_instanceFunctions, a_nodeKinds, a_nodeLefts, a_nodeRights, a_nodeSizes, a_equationLefts, a_equationRights, a_stackLefts, a_stackRights, a_words, a_boundWords, a_cellFirsts, a_cellSeconds, a_closureTokens, a_closureWords, a_written) (nI k) (nI t) (nI s) := by
  refine nm_r (nI_1 t) ?_
  rcases hk with rfl | rfl | rfl | rfl | rfl | rfl
  · obtain ⟨rt1, ds1, g1, s1⟩ := xg_new hg 2 (nI (t + 1)) (nI s) (t + 1) s kd_2 n2_5 (fun _ => ⟨rfl, by omega⟩) (fun _ => ⟨rfl, by omega⟩) (fun z => absurd z (by decide))
    refine br_t rfl (x_newNode (by omega) (x_equate (by omega) (hP (N + 1) (e0 + 1) _ _ _ _ _ _ _ _ rt1 ds1 _ _ (by omega) (by omega) (by omega) g1 (eq_up (eq_mono hq0 (by omega)) (by omega) (by omega)) ?_)))
    refine st_2 hg hq0 (cu_eq (cu_new cu_e s1)) (fun r hwf h => ?_) (fun r hwf h hr => ?_)
    · obtain ⟨⟨h2, h3⟩, h4⟩ := h
      exact ⟨h2, by show r t = .branch 2 (r (c 0)) (r (c 1)); rw [h0, h1, h4]; exact d2_e.mp h3⟩
    · refine ⟨gr_put r N (.branch 2 (r (t + 1)) (r s)), pt_wf hwf (sw2 (hwf _) (hwf _)), fun j hj => gr_put_ne (by omega), fun h' => ⟨⟨h', d2_e.mpr ?_⟩, ?_⟩⟩
      · rw [gr_put_eq, gr_put_ne (by omega), gr_put_ne (by omega)]
      · rw [gr_put_eq, gr_put_ne (by omega), ← h0, ← h1]; exact hr
  · obtain ⟨rt1, ds1, g1, s1⟩ := xg_new hg 3 (nI (t + 1)) (-1) (t + 1) 0 kd_3 n3_5 (fun _ => ⟨rfl, by omega⟩) (fun z => absurd z nrg3) (fun z => absurd z (by decide))
    refine br_f (by decide) (br_t rfl (x_newNode (by omega) (x_equate (by omega) (x_equate (by omega) (hP (N + 1) (e0 + 1 + 1) _ _ _ _ _ _ _ _ rt1 ds1 _ _ (by omega) (by omega) (by omega) g1 (eq_up (eq_up (eq_mono hq0 (by omega)) (by omega) (by omega)) (by omega) (by omega)) ?_)))))
    refine st_2 hg hq0 (cu_eq (cu_eq (cu_new cu_e s1))) (fun r hwf h => ?_) (fun r hwf h hr => ?_)
    · obtain ⟨⟨⟨h2, h3⟩, h4⟩, h5⟩ := h
      refine ⟨h2, ?_, ?_⟩
      · rw [h0, h1, h4]; exact d3_e.mp h3
      · rw [h1, h4]; exact h5
    · obtain ⟨e1, e2⟩ := hr
      rw [h1] at e1 e2
      rw [h0] at e1
      refine ⟨gr_put r N (.branch 3 (r (t + 1)) (.leaf 0)), pt_wf hwf (sw3 (hwf _)), fun j hj => gr_put_ne (by omega), fun h' => ⟨⟨⟨h', d3_e.mpr ?_⟩, ?_⟩, ?_⟩⟩
      · rw [gr_put_eq, gr_put_ne (by omega)]
      · rw [gr_put_eq, gr_put_ne (by omega)]; exact e1
      · rw [gr_put_eq, gr_put_ne (by omega), e2]; exact e1
  · refine br_f (by decide) (br_f (by decide) (br_f (by decide) (br_f (by decide) (x_equate (by omega) (x_equate (by omega) (br_t rfl (x_equate (by omega) (hP N (e0 + 1 + 1 + 1) _ _ _ _ _ _ L R rt ds _ _ (by omega) (by omega) (by omega) hg (eq_up (b := 74) (eq_up (b := 74) (eq_up (b := 74) (eq_mono hq0 (by omega)) (by omega) (by omega)) (by omega) (by omega)) (by omega) (by omega)) ?_))))))))
    refine st_1 (cu_eq (cu_eq (cu_eq cu_e))) (fun r hwf => ⟨fun h => ?_, fun h => ?_⟩)
    · obtain ⟨⟨⟨h2, h3⟩, h4⟩, h5⟩ := h
      have i1 := (hI r hwf h2).1
      exact ⟨h2, by rw [h0, h3, i1], by rw [h1, h4, i1], by rw [h5, i1]⟩
    · obtain ⟨h2, e1, e2, e3⟩ := h
      have i1 := (hI r hwf h2).1
      rw [h0] at e1
      rw [h1] at e2
      exact ⟨⟨⟨h2, by rw [e1, i1]⟩, by rw [e2, i1]⟩, by rw [e3, i1]⟩
  · refine br_f (by decide) (br_f (by decide) (br_f (by decide) (br_f (by decide) (x_equate (by omega) (x_equate (by omega) (br_f (by decide) (x_equate (by omega) (hP N (e0 + 1 + 1 + 1) _ _ _ _ _ _ L R rt ds _ _ (by omega) (by omega) (by omega) hg (eq_up (b := 75) (eq_up (b := 74) (eq_up (b := 74) (eq_mono hq0 (by omega)) (by omega) (by omega)) (by omega) (by omega)) (by omega) (by omega)) ?_))))))))
    refine st_1 (cu_eq (cu_eq (cu_eq cu_e))) (fun r hwf => ⟨fun h => ?_, fun h => ?_⟩)
    · obtain ⟨⟨⟨h2, h3⟩, h4⟩, h5⟩ := h
      have i1 := (hI r hwf h2).1
      have i2 := (hI r hwf h2).2
      exact ⟨h2, by rw [h0, h3, i1], by rw [h1, h4, i1], by rw [h5, i2]⟩
    · obtain ⟨h2, e1, e2, e3⟩ := h
      have i1 := (hI r hwf h2).1
      have i2 := (hI r hwf h2).2
      rw [h0] at e1
      rw [h1] at e2
      exact ⟨⟨⟨h2, by rw [e1, i1]⟩, by rw [e2, i1]⟩, by rw [e3, i2]⟩
  · rw [ix_2]
    refine br_f (by decide) (br_f (by decide) (br_t rfl (x_equate (by omega) (x_equate (by omega) (hP N (e0 + 1 + 1) _ _ _ _ _ _ L R rt ds _ _ (by omega) (by omega) (by omega) hg (eq_up (eq_up (eq_mono hq0 (by omega)) (by omega) (by omega)) (by omega) (by omega)) ?_)))))
    refine st_1 (cu_eq (cu_eq cu_e)) (fun r hwf => ⟨fun h => ?_, fun h => ?_⟩)
    · obtain ⟨⟨h2, h3⟩, h4⟩ := h
      exact ⟨h2, by rw [h0]; exact h3, by rw [h1]; exact h4⟩
    · obtain ⟨h2, e1, e2⟩ := h
      rw [h0] at e1
      rw [h1] at e2
      exact ⟨⟨h2, e1⟩, e2⟩
  · obtain ⟨rt1, ds1, g1, s1⟩ := xg_new hg 4 (nI s) (nI t) s t kd_4 n4_5 (fun _ => ⟨rfl, by omega⟩) (fun _ => ⟨rfl, by omega⟩) (fun z => absurd z (by decide))
    refine br_f (by decide) (br_f (by decide) (br_f (by decide) (br_t rfl (x_newNode (by omega) (x_equate (by omega) (hP (N + 1) (e0 + 1) _ _ _ _ _ _ _ _ rt1 ds1 _ _ (by omega) (by omega) (by omega) g1 (eq_up (eq_mono hq0 (by omega)) (by omega) (by omega)) ?_))))))
    refine st_2 hg hq0 (cu_eq (cu_new cu_e s1)) (fun r hwf h => ?_) (fun r hwf h hr => ?_)
    · obtain ⟨⟨h2, h3⟩, h4⟩ := h
      exact ⟨h2, by show r (c 0) = .branch 4 (r (c 1)) (r t); rw [h0, h1, h4]; exact d4_e.mp h3⟩
    · refine ⟨gr_put r N (.branch 4 (r s) (r t)), pt_wf hwf (sw4 (hwf _) (hwf _)), fun j hj => gr_put_ne (by omega), fun h' => ⟨⟨h', d4_e.mpr ?_⟩, ?_⟩⟩
      · rw [gr_put_eq, gr_put_ne (by omega), gr_put_ne (by omega)]
      · rw [gr_put_eq, gr_put_ne (by omega), ← h0, ← h1]; exact hr
/-- CASE, IF -/
theorem x_stateThree {post : SX → Prop} {N M t k s s3 w P : Nat} {Lc : List Nat} {c : Nat → Nat} {own : Bool} {L R rt ds EL0 ER0 : Nat → Nat} {e0 : Nat} (hN : 76 ≤ N) (hM : N + 2 ≤ M) (hM2 : M ≤ 1126) (ht1 : t + 1 < 24) (hs : s < 24) (hs3 : s3 < 24) (h0 : c 0 = t + 1) (h1 : c 1 = s) (h2 : c 2 = s3)
    (he0 : e0 ≤ 4) (hq0 : eq_ok N e0 a_equationLefts a_equationRights EL0 ER0) (hg : xg_ok N a_nodeKinds a_nodeLefts a_nodeRights L R rt ds) (hI : ∀ r, (∀ n, mt_wf (r n)) → A0 N e0 a_nodeKinds L R EL0 ER0 r → r 74 = .leaf 0 ∧ r 75 = .leaf 1) (hk : k = 10 ∨ k = 11)
    (hP : xs_post post N M f_saidPlace f_instanceCount (nI N) (nI e0) f_stackCount f_wordCount f_depth f_cellCount f_consCount f_closureCount f_stepCount f_runAnswer f_writtenCount a_kinds a_values a_spans a_bounds a_binders a_lengths a_parameterCounts a_typeCodes a_typeLengths a_instanceFunctions a_nodeKinds a_nodeLefts a_nodeRights a_nodeSizes a_equationLefts a_equationRights a_stackLefts a_stackRights a_words a_boundWords a_cellFirsts a_cellSeconds a_closureTokens a_closureWords a_written e0 L R EL0 ER0 (ru_k k t c w own P Lc)) :
    wpX_stateThree post (f_saidPlace, f_instanceCount, (nI N), (nI e0), f_stackCount, f_wordCount, f_depth, f_cellCount, f_consCount, f_closureCount, f_stepCount, f_runAnswer, f_writtenCount, a_kinds, a_values, a_spans, a_bounds, a_binders, a_lengths, a_parameterCounts, a_typeCodes, a_typeLengths, a_instanceFunctions, a_nodeKinds, a_nodeLefts, a_nodeRights, a_nodeSizes, a_equationLefts, a_equationRights, a_stackLefts, a_stackRights, a_words, a_boundWords, a_cellFirsts, a_cellSeconds, a_closureTokens, a_closureWords, a_written) (nI k) (nI t) (nI s) (nI s3) := by
  refine nm_r (nI_1 t) ?_
  rcases hk with rfl | rfl
  · obtain ⟨rt1, ds1, g1, s1⟩ := xg_new hg 3 (nI (24 + 2 * t)) (-1) (24 + 2 * t) 0 kd_3 n3_5 (fun _ => ⟨rfl, by omega⟩) (fun z => absurd z nrg3) (fun z => absurd z (by decide))
    refine br_t rfl (nm_r (ix_2 t) (x_newNode (by omega) (x_equate (by omega) ?_)))
    rw [nI_1]
    refine x_equate (by omega) (x_equate (by omega) (x_equate (by omega) (hP (N + 1) (e0 + 1 + 1 + 1 + 1) _ _ _ _ _ _ _ _ rt1 ds1 _ _ (by omega) (by omega) (by omega) g1 (eq_up (eq_up (eq_up (eq_up (eq_mono hq0 (by omega)) (by omega) (by omega)) (by omega) (by omega)) (by omega) (by omega)) (by omega) (by omega)) ?_)))
    refine st_2 hg hq0 (cu_eq (cu_eq (cu_eq (cu_eq (cu_new cu_e s1))))) (fun r hwf h => ?_) (fun r hwf h hr => ?_)
    · obtain ⟨⟨⟨⟨⟨g, h3⟩, h4⟩, h5⟩, h6⟩, h7⟩ := h
      have e := d3_e.mp h3
      have z25 : 24 + 2 * t + 1 = 25 + 2 * t := by omega
      rw [z25] at h5
      refine ⟨g, ?_, ?_, ?_, ?_⟩
      · rw [h0, h4]; exact e
      · rw [h0, h4]; exact h5
      · rw [h1]; exact h6
      · rw [h2]; exact h7
    · obtain ⟨e1, e2, e3, e4⟩ := hr
      rw [h0] at e1 e2
      rw [h1] at e3
      rw [h2] at e4
      have z25 : 24 + 2 * t + 1 = 25 + 2 * t := by omega
      refine ⟨gr_put r N (.branch 3 (r (24 + 2 * t)) (.leaf 0)), pt_wf hwf (sw3 (hwf _)), fun j hj => gr_put_ne (by omega), fun h' => ⟨⟨⟨⟨⟨h', d3_e.mpr ?_⟩, ?_⟩, ?_⟩, ?_⟩, ?_⟩⟩
      · rw [gr_put_eq, gr_put_ne (by omega)]
      · rw [gr_put_eq, gr_put_ne (by omega)]; exact e1
      · rw [gr_put_eq, gr_put_ne (by omega), z25, e2]; exact e1
      · rw [gr_put_ne (by omega), gr_put_ne (by omega)]; exact e3
      · rw [gr_put_ne (by omega), gr_put_ne (by omega)]; exact e4
  · refine br_f (by decide) (x_equate (by omega) (x_equate (by omega) (x_equate (by omega) (hP N (e0 + 1 + 1 + 1) _ _ _ _ _ _ L R rt ds _ _ (by omega) (by omega) (by omega) hg (eq_up (eq_up (eq_up (b := 75) (eq_mono hq0 (by omega)) (by omega) (by omega)) (by omega) (by omega)) (by omega) (by omega)) ?_))))
    refine st_1 (cu_eq (cu_eq (cu_eq cu_e))) (fun r hwf => ⟨fun h => ?_, fun h => ?_⟩)
    · obtain ⟨⟨⟨g, h3⟩, h4⟩, h5⟩ := h
      have i2 := (hI r hwf g).2
      exact ⟨g, by rw [h0, h3, i2], by rw [h1]; exact h4, by rw [h2]; exact h5⟩
    · obtain ⟨g, e1, e2, e3⟩ := h
      have i2 := (hI r hwf g).2
      rw [h0] at e1
      rw [h1] at e2
      rw [h2] at e3
      exact ⟨⟨⟨g, by rw [e1, i2]⟩, e2⟩, e3⟩

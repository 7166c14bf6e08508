variable {f_saidPlace f_instanceCount f_nodeCount f_equationCount f_stackCount f_wordCount f_depth f_cellCount f_consCount f_closureCount f_stepCount f_runAnswer f_writtenCount : Int32} {a_kinds a_values a_spans a_bounds a_binders a_lengths a_parameterCounts a_typeCodes a_typeLengths a_instanceFunctions a_nodeKinds a_nodeLefts a_nodeRights a_nodeSizes a_equationLefts a_equationRights a_stackLefts a_stackRights a_words a_boundWords a_cellFirsts a_cellSeconds a_closureTokens a_closureWords a_written : Nat → Int32}
theorem x_stateRule {post : SX → Prop} {N M f n t w P : Nat} {Lc : List Nat} {own : Bool} {kN : Nat → Nat} {vl : Nat → Int32} {oc sp bd bi L R rt ds EL0 ER0 : Nat → Nat} {e0 : Nat} (hN : 76 ≤ N) (hM : N + 2 ≤ M) (hM2 : M ≤ 1126) (hf : f < 5) (ht : t < n)
    (hb : xb_ok f n a_kinds a_values a_spans a_bounds a_binders a_lengths a_parameterCounts kN vl oc sp bd bi) (h4 : kN t ≠ 4) (hw : ∀ v, kN t = 3 → vl t = nI v → v < 10 → w = vw bi bd (bi t) (bi t) v)
    (he0 : e0 ≤ 4) (hq0 : eq_ok N e0 a_equationLefts a_equationRights EL0 ER0) (hg : xg_ok N a_nodeKinds a_nodeLefts a_nodeRights L R rt ds) (hI : ∀ r, (∀ n, mt_wf (r n)) → A0 N e0 a_nodeKinds L R EL0 ER0 r → r 74 = .leaf 0 ∧ r 75 = .leaf 1)
    (hP : xs_post post N M f_saidPlace f_instanceCount (nI N) (nI e0) f_stackCount f_wordCount f_depth f_cellCount f_consCount f_closureCount f_stepCount f_runAnswer f_writtenCount a_kinds a_values a_spans a_bounds a_binders a_lengths a_parameterCounts a_typeCodes a_typeLengths a_instanceFunctions a_nodeKinds a_nodeLefts a_nodeRights a_nodeSizes a_equationLefts a_equationRights a_stackLefts a_stackRights a_words a_boundWords a_cellFirsts a_cellSeconds a_closureTokens a_closureWords a_written e0 L R EL0 ER0 (ru_k (kN t) t (jp sp t) w own P Lc)) :
    wpX_stateRule post (f_saidPlace, f_instanceCount, (nI N), (nI e0), f_stackCount, f_wordCount, f_depth, f_cellCount, f_consCount, f_closureCount, f_stepCount, f_runAnswer, f_writtenCount, a_kinds, a_values, a_spans, a_bounds, a_binders, a_lengths, a_parameterCounts, a_typeCodes, a_typeLengths, a_instanceFunctions, a_nodeKinds, a_nodeLefts, a_nodeRights, a_nodeSizes, a_equationLefts, a_equationRights, a_stackLefts, a_stackRights, a_words, a_boundWords, a_cellFirsts, a_cellSeconds, a_closureTokens, a_closureWords, a_written) (nI f) (nI t) := by
  obtain ⟨n24, bw, _, hb⟩ := hb
  obtain ⟨b1, b2, b3, b4, b5, b6, b7, b8, b9, b10, b11⟩ := hb t ht
  have oc' := b11 h4
  have cx : (nI (f * 24 + t)).toNatClampNeg = f * 24 + t := nI_clamp (by omega)
  have hin : ∀ j, j < oc t → jp sp t j < n := fun j hj => (bw_in bw ht hj).2.2
  have hsp : ∀ j, j < oc t → a_spans (f * 24 + jp sp t j) = nI (sp (jp sp t j)) := fun j hj => (hb _ (hin j hj)).2.2.2.1
  refine nm_r (ix_24 f t) (x_operandCount (o := oc t) (by omega) b1 b2 (fun z => absurd z h4) b11 ?_)
  have leaf : kN t = 0 ∨ kN t = 1 ∨ kN t = 2 ∨ kN t = 3 ∨ kN t = 8 → wpX_stateLeaf post (f_saidPlace, f_instanceCount, (nI N), (nI e0), f_stackCount, f_wordCount, f_depth, f_cellCount, f_consCount, f_closureCount, f_stepCount, f_runAnswer, f_writtenCount, a_kinds, a_values, a_spans, a_bounds, a_binders, a_lengths, a_parameterCounts, a_typeCodes, a_typeLengths, a_instanceFunctions, a_nodeKinds, a_nodeLefts, a_nodeRights, a_nodeSizes, a_equationLefts, a_equationRights, a_stackLefts, a_stackRights, a_words, a_boundWords, a_cellFirsts, a_cellSeconds, a_closureTokens, a_closureWords, a_written) (nI f) (nI t) := by
    intro hk
    by_cases z3 : kN t = 3
    · obtain ⟨v, v1, v2, v3, v4⟩ := b9 z3
      have hw' := hw v z3 v2 v1
      rw [hw'] at hP
      exact x_stateLeaf (n := n) (v := v) hN hM hM2 (by omega) n24 ht he0 hq0 hg hI b1 hk (fun t' ht' => ⟨(hb t' ht').2.2.2.2.1, (hb t' ht').2.2.2.2.2.1, (hb t' ht').2.2.2.2.2.2.1, (hb t' ht').2.2.2.2.2.2.2.1⟩) (fun _ => ⟨v1, by rw [b3]; exact v2⟩) (fun _ => v4) hP
    · have hP' : xs_post post N M f_saidPlace f_instanceCount (nI N) (nI e0) f_stackCount f_wordCount f_depth f_cellCount f_consCount f_closureCount f_stepCount f_runAnswer f_writtenCount a_kinds a_values a_spans a_bounds a_binders a_lengths a_parameterCounts a_typeCodes a_typeLengths a_instanceFunctions a_nodeKinds a_nodeLefts a_nodeRights a_nodeSizes a_equationLefts a_equationRights a_stackLefts a_stackRights a_words a_boundWords a_cellFirsts a_cellSeconds a_closureTokens a_closureWords a_written e0 L R EL0 ER0 (ru_k (kN t) t (jp sp t) (vw bi bd (bi t) (bi t) 0) own P Lc) := by
        have this : ru_k (kN t) t (jp sp t) (vw bi bd (bi t) (bi t) 0) own P Lc = ru_k (kN t) t (jp sp t) w own P Lc := by
          rcases hk with z | z | z | z | z
          · rw [z]; rfl
          · rw [z]; rfl
          · rw [z]; rfl
          · exact absurd z z3
          · rw [z]; rfl
        rw [this]; exact hP
      exact x_stateLeaf (n := n) (v := 0) hN hM hM2 (by omega) n24 ht he0 hq0 hg hI b1 hk (fun t' ht' => ⟨(hb t' ht').2.2.2.2.1, (hb t' ht').2.2.2.2.2.1, (hb t' ht').2.2.2.2.2.2.1, (hb t' ht').2.2.2.2.2.2.2.1⟩) (fun z => absurd z z3) (fun z => absurd z z3) hP'
  have one : kN t = 6 ∨ kN t = 7 ∨ kN t = 15 → vp_in (nI (f * 24 + t)) 264 ∧ wpX_stateOne (fun u => post u) (f_saidPlace, f_instanceCount, (nI N), (nI e0), f_stackCount, f_wordCount, f_depth, f_cellCount, f_consCount, f_closureCount, f_stepCount, f_runAnswer, f_writtenCount, a_kinds, a_values, a_spans, a_bounds, a_binders, a_lengths, a_parameterCounts, a_typeCodes, a_typeLengths, a_instanceFunctions, a_nodeKinds, a_nodeLefts, a_nodeRights, a_nodeSizes, a_equationLefts, a_equationRights, a_stackLefts, a_stackRights, a_words, a_boundWords, a_cellFirsts, a_cellSeconds, a_closureTokens, a_closureWords, a_written) (a_kinds (nI (f * 24 + t)).toNatClampNeg) (nI t) := by
    intro hk
    refine And.intro (pk_in (f * 24 + t) 264 (by omega)) ?_
    rw [cx, b1]
    exact x_stateOne hN hM hM2 (by omega) rfl he0 hq0 hg hk hP
  have two : oc t = 2 → (kN t = 5 ∨ kN t = 9 ∨ kN t = 12 ∨ kN t = 13 ∨ kN t = 14 ∨ kN t = 16) → vp_in (nI (f * 24 + t)) 264 ∧ wpX_stateTwo (fun u => post u) (f_saidPlace, f_instanceCount, (nI N), (nI e0), f_stackCount, f_wordCount, f_depth, f_cellCount, f_consCount, f_closureCount, f_stepCount, f_runAnswer, f_writtenCount, a_kinds, a_values, a_spans, a_bounds, a_binders, a_lengths, a_parameterCounts, a_typeCodes, a_typeLengths, a_instanceFunctions, a_nodeKinds, a_nodeLefts, a_nodeRights, a_nodeSizes, a_equationLefts, a_equationRights, a_stackLefts, a_stackRights, a_words, a_boundWords, a_cellFirsts, a_cellSeconds, a_closureTokens, a_closureWords, a_written) (a_kinds (nI (f * 24 + t)).toNatClampNeg) (nI t) (nI (jp sp t 1)) := by
    intro ho hk
    refine And.intro (pk_in (f * 24 + t) 264 (by omega)) ?_
    rw [cx, b1]
    have h0 := hin 0 (by omega)
    have h1 := hin 1 (by omega)
    have h01 : jp sp t 0 = t + 1 := rfl
    exact x_stateTwo hN hM hM2 (by omega) (by omega) (by omega) rfl rfl he0 hq0 hg hI hk hP
  have sec : 2 ≤ oc t → nI (f * 24 + jp sp t 1) - nI f * 24 = nI (jp sp t 1) := by
    intro _
    have : nI f * 24 = nI (f * 24) := pk_mul f 24
    rw [this, pk_sub (by omega)]; exact congrArg nI (by omega)
  have three : oc t = 3 → (kN t = 10 ∨ kN t = 11) → vp_in (nI f * 24 + nI (jp sp t 1)) 264 ∧ ∀ x6, x6 = nI (jp sp t 1) + a_spans (nI f * 24 + nI (jp sp t 1)).toNatClampNeg → vp_in (nI (f * 24 + t)) 264 ∧
      wpX_stateThree (fun u => post u) (f_saidPlace, f_instanceCount, (nI N), (nI e0), f_stackCount, f_wordCount, f_depth, f_cellCount, f_consCount, f_closureCount, f_stepCount, f_runAnswer, f_writtenCount, a_kinds, a_values, a_spans, a_bounds, a_binders, a_lengths, a_parameterCounts, a_typeCodes, a_typeLengths, a_instanceFunctions, a_nodeKinds, a_nodeLefts, a_nodeRights, a_nodeSizes, a_equationLefts, a_equationRights, a_stackLefts, a_stackRights, a_words, a_boundWords, a_cellFirsts, a_cellSeconds, a_closureTokens, a_closureWords, a_written) (a_kinds (nI (f * 24 + t)).toNatClampNeg) (nI t) (nI (jp sp t 1)) x6 := by
    intro ho hk
    have h0 := hin 0 (by omega)
    have h1 := hin 1 (by omega)
    have h2 := hin 2 (by omega)
    refine And.intro (pk_in (f * 24 + jp sp t 1) 264 (by omega) (ix_24 _ _)) (nm_r (e' := nI (jp sp t 2)) (by rw [ix_24, nI_clamp (by omega), hsp 1 (by omega), nI_add]; rfl) (And.intro (pk_in (f * 24 + t) 264 (by omega)) ?_))
    rw [cx, b1]
    have h01 : jp sp t 0 = t + 1 := rfl
    exact x_stateThree hN hM hM2 (by omega) (by omega) (by omega) rfl rfl rfl he0 hq0 hg hI hk hP
  have at1 : 2 ≤ oc t → ∀ post' : Int32 → Prop, post' (nI (f * 24 + jp sp t 1)) → wpX_operandAt post' (f_saidPlace, f_instanceCount, (nI N), (nI e0), f_stackCount, f_wordCount, f_depth, f_cellCount, f_consCount, f_closureCount, f_stepCount, f_runAnswer, f_writtenCount, a_kinds, a_values, a_spans, a_bounds, a_binders, a_lengths, a_parameterCounts, a_typeCodes, a_typeLengths, a_instanceFunctions, a_nodeKinds, a_nodeLefts, a_nodeRights, a_nodeSizes, a_equationLefts, a_equationRights, a_stackLefts, a_stackRights, a_words, a_boundWords, a_cellFirsts, a_cellSeconds, a_closureTokens, a_closureWords, a_written) (nI (f * 24 + t)) (nI 1) := by
    intro ho post' hp'
    exact x_operandAt (B := f * 24) (t := t) (j := 1) (by omega) (fun i hi => by
      have : i = 0 := by omega
      subst this
      exact ⟨by have := hin 0 (by omega); omega, hsp 0 (by omega)⟩) hp'
  have l3 : oc t ≤ 3 := by rw [oc']; rcases k17 b2 with z | z | z | z | z | z | z | z | z | z | z | z | z | z | z | z | z <;> (rw [z]; decide)
  rcases k17 b2 with z | z | z | z | z | z | z | z | z | z | z | z | z | z | z | z | z
  · have o : oc t = 0 := by rw [oc', z]; rfl
    rw [o]; exact br_t rfl (leaf (by omega))
  · have o : oc t = 0 := by rw [oc', z]; rfl
    rw [o]; exact br_t rfl (leaf (by omega))
  · have o : oc t = 0 := by rw [oc', z]; rfl
    rw [o]; exact br_t rfl (leaf (by omega))
  · have o : oc t = 0 := by rw [oc', z]; rfl
    rw [o]; exact br_t rfl (leaf (by omega))
  · exact absurd z h4
  · have o : oc t = 2 := by rw [oc', z]; rfl
    rw [o]; exact br_f (by decide) (br_f (by decide) (at1 (by omega) _ (nm_r (sec (by omega)) (br_t rfl (two o (by omega))))))
  · have o : oc t = 1 := by rw [oc', z]; rfl
    rw [o]; exact br_f (by decide) (br_t rfl (one (by omega)))
  · have o : oc t = 1 := by rw [oc', z]; rfl
    rw [o]; exact br_f (by decide) (br_t rfl (one (by omega)))
  · have o : oc t = 0 := by rw [oc', z]; rfl
    rw [o]; exact br_t rfl (leaf (by omega))
  · have o : oc t = 2 := by rw [oc', z]; rfl
    rw [o]; exact br_f (by decide) (br_f (by decide) (at1 (by omega) _ (nm_r (sec (by omega)) (br_t rfl (two o (by omega))))))
  · have o : oc t = 3 := by rw [oc', z]; rfl
    rw [o]; exact br_f (by decide) (br_f (by decide) (at1 (by omega) _ (nm_r (sec (by omega)) (br_f (by decide) (three o (by omega))))))
  · have o : oc t = 3 := by rw [oc', z]; rfl
    rw [o]; exact br_f (by decide) (br_f (by decide) (at1 (by omega) _ (nm_r (sec (by omega)) (br_f (by decide) (three o (by omega))))))
  · have o : oc t = 2 := by rw [oc', z]; rfl
    rw [o]; exact br_f (by decide) (br_f (by decide) (at1 (by omega) _ (nm_r (sec (by omega)) (br_t rfl (two o (by omega))))))
  · have o : oc t = 2 := by rw [oc', z]; rfl
    rw [o]; exact br_f (by decide) (br_f (by decide) (at1 (by omega) _ (nm_r (sec (by omega)) (br_t rfl (two o (by omega))))))
  · have o : oc t = 2 := by rw [oc', z]; rfl
    rw [o]; exact br_f (by decide) (br_f (by decide) (at1 (by omega) _ (nm_r (sec (by omega)) (br_t rfl (two o (by omega))))))
  · have o : oc t = 1 := by rw [oc', z]; rfl
    rw [o]; exact br_f (by decide) (br_t rfl (one (by omega)))
  · have o : oc t = 2 := by rw [oc', z]; rfl
    rw [o]; exact br_f (by decide) (br_f (by decide) (at1 (by omega) _ (nm_r (sec (by omega)) (br_t rfl (two o (by omega))))))
theorem ru_dep {k t w P : Nat} {c : Nat → Nat} {own : Bool} {Lc : List Nat} {r r' : Nat → mt_T} (hk : k ≤ 16) (ht : t < 24) (hc : ∀ j, j < (if k = 4 then P else ar k) → c j < 74) (hw : k = 3 → w < 74) (hP : k = 4 → P ≤ 2)
    (e : ∀ n, n < 74 → r' n = r n) (h : ru_k k t c w own P Lc r) : ru_k k t c w own P Lc r' := by
  have hc' : k ≠ 4 → ∀ j, j < ar k → c j < 74 := fun z j hj => hc j (by rw [if_neg z]; exact hj)
  have et := e t (by omega)
  have e1 := e (24 + 2 * t) (by omega)
  have e2 := e (25 + 2 * t) (by omega)
  rcases k17 hk with rfl | rfl | rfl | rfl | rfl | rfl | rfl | rfl | rfl | rfl | rfl | rfl | rfl | rfl | rfl | rfl | rfl
  · show r' t = _; rw [et]; exact h
  · show r' t = _; rw [et]; exact h
  · show r' t = _; rw [et]; exact h
  · show r' t = r' w; rw [et, e w (hw rfl)]; exact h
  · rw [if_pos rfl] at hc
    cases own with
    | true =>
      obtain ⟨a, b⟩ := h
      refine ⟨fun j hj => ?_, ?_⟩
      · have := hP rfl
        rw [e _ (hc j hj), e _ (by omega)]; exact a j hj
      · rw [et, e 0 (by omega)]; exact b
    | false =>
      show sc_inst Lc ((List.range P).map (fun j => r' (c j)) ++ [r' t])
      have : (List.range P).map (fun j => r' (c j)) = (List.range P).map (fun j => r (c j)) := List.map_congr_left (fun j hj => e _ (hc j (List.mem_range.mp hj)))
      rw [this, et]; exact h
  · show r' t = .branch 2 (r' (c 0)) (r' (c 1)); rw [et, e _ (hc' (by decide) 0 (by decide)), e _ (hc' (by decide) 1 (by decide))]; exact h
  · show ∃ x, mt_wf x ∧ r' (c 0) = .branch 2 (r' t) x; rw [et, e _ (hc' (by decide) 0 (by decide))]; exact h
  · show ∃ x, mt_wf x ∧ r' (c 0) = .branch 2 x (r' t); rw [et, e _ (hc' (by decide) 0 (by decide))]; exact h
  · show ∃ x, mt_wf x ∧ r' t = .branch 3 x (.leaf 0); rw [et]; exact h
  · show r' (c 1) = .branch 3 (r' (c 0)) (.leaf 0) ∧ r' t = r' (c 1); rw [et, e _ (hc' (by decide) 0 (by decide)), e _ (hc' (by decide) 1 (by decide))]; exact h
  · show r' (c 0) = .branch 3 (r' (24 + 2 * t)) (.leaf 0) ∧ r' (25 + 2 * t) = r' (c 0) ∧ r' (c 1) = r' t ∧ r' (c 2) = r' t
    rw [et, e1, e2, e _ (hc' (by decide) 0 (by decide)), e _ (hc' (by decide) 1 (by decide)), e _ (hc' (by decide) 2 (by decide))]; exact h
  · show r' (c 0) = .leaf 1 ∧ r' (c 1) = r' t ∧ r' (c 2) = r' t
    rw [et, e _ (hc' (by decide) 0 (by decide)), e _ (hc' (by decide) 1 (by decide)), e _ (hc' (by decide) 2 (by decide))]; exact h
  · show r' (c 0) = .leaf 0 ∧ r' (c 1) = .leaf 0 ∧ r' t = .leaf 0; rw [et, e _ (hc' (by decide) 0 (by decide)), e _ (hc' (by decide) 1 (by decide))]; exact h
  · show r' (c 0) = .leaf 0 ∧ r' (c 1) = .leaf 0 ∧ r' t = .leaf 1; rw [et, e _ (hc' (by decide) 0 (by decide)), e _ (hc' (by decide) 1 (by decide))]; exact h
  · show r' (24 + 2 * t) = r' (c 0) ∧ r' t = r' (c 1); rw [et, e1, e _ (hc' (by decide) 0 (by decide)), e _ (hc' (by decide) 1 (by decide))]; exact h
  · show r' t = .branch 4 (r' (24 + 2 * t)) (r' (c 0)); rw [et, e1, e _ (hc' (by decide) 0 (by decide))]; exact h
  · show r' (c 0) = .branch 4 (r' (c 1)) (r' t); rw [et, e _ (hc' (by decide) 0 (by decide)), e _ (hc' (by decide) 1 (by decide))]; exact h
theorem pj_step {N N' e e' : Nat} {K K1 : Nat → Int32} {L R L1 R1 EL0 ER0 EL ER : Nat → Nat} {S rule : (Nat → mt_T) → Prop} (hN : 74 ≤ N) (hp : pj_is 74 (A0 N e K L R EL0 ER0) S) (hst : st_ok N e K L R EL0 ER0 N' e' K1 L1 R1 EL ER rule)
    (hd : ∀ r r', (∀ n, n < 74 → r' n = r n) → rule r → rule r') : pj_is 74 (fun r => gr_sat N' K1 L1 R1 r ∧ eq_all e' EL ER r) (fun r => S r ∧ rule r) := by
  refine ⟨fun r hw h => ?_, fun r hw h => ?_⟩
  · obtain ⟨a, b⟩ := hst.1 r hw h.1 h.2
    exact ⟨hp.1 r hw a, b⟩
  · obtain ⟨r0, w0, s0, e0⟩ := hp.2 r hw h.1
    obtain ⟨r1, w1, e1, s1, q1⟩ := hst.2 r0 w0 s0 (hd r r0 e0 h.2)
    exact ⟨r1, w1, ⟨s1, q1⟩, fun n hn => by rw [e1 n (by omega), e0 n hn]⟩
theorem pj_iff {A B S : (Nat → mt_T) → Prop} (h : pj_is 74 A S) (e : ∀ r, A r ↔ B r) : pj_is 74 B S :=
  ⟨fun r hw hb => h.1 r hw ((e r).mpr hb), fun r hw hs => by obtain ⟨r', a, b, c⟩ := h.2 r hw hs; exact ⟨r', a, (e r').mp b, c⟩⟩

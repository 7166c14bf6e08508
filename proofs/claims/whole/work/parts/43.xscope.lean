variable {f_saidPlace f_instanceCount f_nodeCount f_equationCount f_stackCount f_wordCount f_depth f_cellCount f_consCount f_closureCount f_stepCount f_runAnswer f_writtenCount : Int32} {a_kinds a_values a_spans a_bounds a_binders a_lengths a_parameterCounts a_typeCodes a_typeLengths a_instanceFunctions a_nodeKinds a_nodeLefts a_nodeRights a_nodeSizes a_equationLefts a_equationRights a_stackLefts a_stackRights a_words a_boundWords a_cellFirsts a_cellSeconds a_closureTokens a_closureWords a_written : Nat → Int32}
/-- scopes, as X holds them -/
def sc_at (f : Nat) (bo bin : Nat → Int32) (bd bi : Nat → Nat) (s : Nat) : Prop := bo (f * 24 + s) = nI (bd s) ∧ bin (f * 24 + s) = (if bi s = 0 then -1 else nI (bi s - 1))
theorem sc_keep {f : Nat} {bo bin bo' bin' : Nat → Int32} {bd bi : Nat → Nat} {s : Nat} (h : sc_at f bo bin bd bi s) (e1 : bo' (f * 24 + s) = bo (f * 24 + s)) (e2 : bin' (f * 24 + s) = bin (f * 24 + s)) : sc_at f bo' bin' bd bi s := ⟨by rw [e1]; exact h.1, by rw [e2]; exact h.2⟩
abbrev JX := Int32 → (Nat → Int32) → (Nat → Int32) → (Nat → Int32) → (Nat → Int32) → (Nat → Int32) → (Nat → Int32) → (Nat → Int32) → (Nat → Int32) → (Nat → Int32) → (Nat → Int32) → (Nat → Int32) → (Nat → Int32) → (Nat → Int32) → (Nat → Int32) → (Nat → Int32) → (Nat → Int32) → (Nat → Int32) → (Nat → Int32) → (Nat → Int32) → (Nat → Int32) → (Nat → Int32) → (Nat → Int32) → (Nat → Int32) → (Nat → Int32) → (Nat → Int32) → Prop
theorem x_sc71 {post : SX → Prop} {J27 : JX} {f n t : Nat} {kN oc sp bd bi : Nat → Nat} (hf : f < 5) (hn : n ≤ 24) (ht : t < n) (hbw : bw_is n oc sp) (htr : tr_ok n kN oc sp bd bi) (hk : kN t ≤ 16) (ho : kN t ≠ 4 → oc t = ar (kN t)) (ho3 : oc t ≤ 3) (hb50 : ∀ s, s < n → bd s ≤ 100)
    (hsp : ∀ s, s < n → a_spans (f * 24 + s) = nI (sp s))
    (hJ : ∀ bo bin, (∀ j, j < f * 24 ∨ f * 24 + 24 ≤ j → bo j = a_bounds j ∧ bin j = a_binders j) → (∀ s, s < n → sc_at f a_bounds a_binders bd bi s → sc_at f bo bin bd bi s) → (∀ j, j < oc t → sc_at f bo bin bd bi (jp sp t j)) → J27 (nI t + 1) a_kinds a_values a_spans bo bin a_lengths a_parameterCounts a_typeCodes a_typeLengths a_instanceFunctions a_nodeKinds a_nodeLefts a_nodeRights a_nodeSizes a_equationLefts a_equationRights a_stackLefts a_stackRights a_words a_boundWords a_cellFirsts a_cellSeconds a_closureTokens a_closureWords a_written) :
    ∀ q j fu bo bin, j + q = oc t → q < fu → (∀ j, j < f * 24 ∨ f * 24 + 24 ≤ j → bo j = a_bounds j ∧ bin j = a_binders j) → (∀ s, s < n → sc_at f a_bounds a_binders bd bi s → sc_at f bo bin bd bi s) → sc_at f bo bin bd bi t → (∀ i, i < j → sc_at f bo bin bd bi (jp sp t i)) →
      wX_markScopes_71 post J27 (nI f) (nI t) (nI (f * 24 + t)) (nI (oc t)) (nI (op (kN t))) f_saidPlace f_instanceCount f_nodeCount f_equationCount f_stackCount f_wordCount f_depth f_cellCount f_consCount f_closureCount f_stepCount f_runAnswer f_writtenCount fu (nI (f * 24 + jp sp t j)) (nI j) a_kinds a_values a_spans bo bin a_lengths a_parameterCounts a_typeCodes a_typeLengths a_instanceFunctions a_nodeKinds a_nodeLefts a_nodeRights a_nodeSizes a_equationLefts a_equationRights a_stackLefts a_stackRights a_words a_boundWords a_cellFirsts a_cellSeconds a_closureTokens a_closureWords a_written := by
  intro q
  induction q with
  | zero =>
    intro j fu bo bin hj hfu h1 h2 h3 h4
    obtain ⟨fu, rfl⟩ : ∃ g, fu = g + 1 := ⟨fu - 1, by omega⟩
    have e : j = oc t := by omega
    subst e
    exact br_t (nI_le (Nat.le_refl _) (by omega)) (nm_e (hJ bo bin h1 h2 h4))
  | succ q ih =>
    intro j fu bo bin hj hfu h1 h2 h3 h4
    obtain ⟨fu, rfl⟩ : ∃ g, fu = g + 1 := ⟨fu - 1, by omega⟩
    have hjo : j < oc t := by omega
    obtain ⟨q1, q2, q3⟩ := bw_in hbw ht hjo
    obtain ⟨t1, t2⟩ := htr.2 t ht j hjo
    have hbn := op_bn hk ho j hjo
    have hop : op (kN t) ≤ 2 := by unfold op; split; omega; split <;> omega
    have hbt := hb50 t ht
    have hbc := hb50 _ q3
    have c1 : (nI (f * 24 + t)).toNatClampNeg = f * 24 + t := nI_clamp (by omega)
    have c2 : (nI (f * 24 + jp sp t j)).toNatClampNeg = f * 24 + jp sp t j := nI_clamp (by omega)
    -- both writes
    have fin : ∀ (z0 z1 : Int32), z0 = nI (bd (jp sp t j)) → z1 = (if bi (jp sp t j) = 0 then -1 else nI (bi (jp sp t j) - 1)) →
        wX_markScopes_150 post J27 (wX_markScopes_71 post J27 (nI f) (nI t) (nI (f * 24 + t)) (nI (oc t)) (nI (op (kN t))) f_saidPlace f_instanceCount f_nodeCount f_equationCount f_stackCount f_wordCount f_depth f_cellCount f_consCount f_closureCount f_stepCount f_runAnswer f_writtenCount fu) (nI f) (nI t) (nI (f * 24 + t)) (nI (oc t)) (nI (op (kN t))) (nI (f * 24 + jp sp t j)) (nI j) z1 (nI (f * 24 + jp sp t j)) f_saidPlace f_instanceCount f_nodeCount f_equationCount f_stackCount f_wordCount f_depth f_cellCount f_consCount f_closureCount f_stepCount f_runAnswer f_writtenCount a_kinds a_values a_spans (upd bo (f * 24 + jp sp t j) z0) bin a_lengths a_parameterCounts a_typeCodes a_typeLengths a_instanceFunctions a_nodeKinds a_nodeLefts a_nodeRights a_nodeSizes a_equationLefts a_equationRights a_stackLefts a_stackRights a_words a_boundWords a_cellFirsts a_cellSeconds a_closureTokens a_closureWords a_written := by
      intro z0 z1 e0 e1
      refine And.intro (pk_in (f * 24 + jp sp t j) 264 (by omega)) (nm_r (e' := upd bin (f * 24 + jp sp t j) z1) (by rw [c2]) (And.intro (pk_in (f * 24 + jp sp t j) 264 (by omega)) (nm_r (e' := nI (f * 24 + jp sp t (j + 1))) (by rw [c2, hsp _ q3, nI_add, Nat.add_assoc]; rfl) (nm_r (nI_1 j) ?_))))
      have keep : ∀ s, sc_at f bo bin bd bi s → sc_at f (upd bo (f * 24 + jp sp t j) z0) (upd bin (f * 24 + jp sp t j) z1) bd bi s := by
        intro s hs
        by_cases z : s = jp sp t j
        · subst z; exact ⟨by rw [pk_us]; exact e0, by rw [pk_us]; exact e1⟩
        · exact sc_keep hs (pk_un (by omega)) (pk_un (by omega))
      refine ih (j + 1) fu _ _ (by omega) (by omega) (fun i hi => ?_) (fun s hs h => keep s (h2 s hs h)) (keep t h3) (fun i hi => ?_)
      · rw [pk_un (by omega), pk_un (by omega)]; exact h1 i hi
      · by_cases z : i = j
        · subst z; exact ⟨by rw [pk_us]; exact e0, by rw [pk_us]; exact e1⟩
        · exact keep _ (h4 i (by omega))
    have c96 : bn (kN t) j = 0 → wX_markScopes_96 post J27 (wX_markScopes_71 post J27 (nI f) (nI t) (nI (f * 24 + t)) (nI (oc t)) (nI (op (kN t))) f_saidPlace f_instanceCount f_nodeCount f_equationCount f_stackCount f_wordCount f_depth f_cellCount f_consCount f_closureCount f_stepCount f_runAnswer f_writtenCount fu) (nI f) (nI t) (nI (f * 24 + t)) (nI (oc t)) (nI (op (kN t))) (nI (f * 24 + jp sp t j)) (nI j) f_saidPlace f_instanceCount f_nodeCount f_equationCount f_stackCount f_wordCount f_depth f_cellCount f_consCount f_closureCount f_stepCount f_runAnswer f_writtenCount a_kinds a_values a_spans bo bin a_lengths a_parameterCounts a_typeCodes a_typeLengths a_instanceFunctions a_nodeKinds a_nodeLefts a_nodeRights a_nodeSizes a_equationLefts a_equationRights a_stackLefts a_stackRights a_words a_boundWords a_cellFirsts a_cellSeconds a_closureTokens a_closureWords a_written := by
      intro z
      rw [z] at t1
      rw [if_pos z] at t2
      refine br_t rfl (And.intro (pk_in (f * 24 + t) 264 (by omega)) (And.intro (pk_in (f * 24 + jp sp t j) 264 (by omega)) (nm_r (e' := upd bo (f * 24 + jp sp t j) (nI (bd t))) (by rw [c2, c1, h3.1]) (br_t rfl (And.intro (pk_in (f * 24 + t) 264 (by omega)) ?_)))))
      rw [c1]
      exact fin _ _ (by rw [t1, Nat.add_zero]) (by rw [t2]; exact h3.2)
    have c97 : bn (kN t) j ≠ 0 → wX_markScopes_97 post J27 (wX_markScopes_71 post J27 (nI f) (nI t) (nI (f * 24 + t)) (nI (oc t)) (nI (op (kN t))) f_saidPlace f_instanceCount f_nodeCount f_equationCount f_stackCount f_wordCount f_depth f_cellCount f_consCount f_closureCount f_stepCount f_runAnswer f_writtenCount fu) (nI f) (nI t) (nI (f * 24 + t)) (nI (oc t)) (nI (op (kN t))) (nI (f * 24 + jp sp t j)) (nI j) 1 f_saidPlace f_instanceCount f_nodeCount f_equationCount f_stackCount f_wordCount f_depth f_cellCount f_consCount f_closureCount f_stepCount f_runAnswer f_writtenCount a_kinds a_values a_spans bo bin a_lengths a_parameterCounts a_typeCodes a_typeLengths a_instanceFunctions a_nodeKinds a_nodeLefts a_nodeRights a_nodeSizes a_equationLefts a_equationRights a_stackLefts a_stackRights a_words a_boundWords a_cellFirsts a_cellSeconds a_closureTokens a_closureWords a_written := by
      intro z
      rw [if_neg z] at t2
      have eo : bn (kN t) j = op (kN t) := by
        rw [hbn] at z ⊢
        by_cases y : 0 < op (kN t) ∧ j = oc t - 1
        · rw [if_pos y]
        · rw [if_neg y] at z; exact absurd rfl z
      refine br_f n1_0 (And.intro (pk_in (f * 24 + t) 264 (by omega)) (And.intro (pk_in (f * 24 + jp sp t j) 264 (by omega)) (nm_r (e' := upd bo (f * 24 + jp sp t j) (nI (bd t) + nI (op (kN t)))) (by rw [c2, c1, h3.1]) (br_f n1_0 ?_))))
      refine fin _ _ (by rw [nI_add, t1, eo]) (by rw [t2, if_neg (by omega)]; rfl)
    refine br_f (nI_ge (by omega) (by omega)) (pk_le (op (kN t)) 0 (fun z => c96 (by rw [hbn, if_neg (by omega)])) (fun z => ?_))
    have e1 : nI (oc t) - 1 = nI (oc t - 1) := by
      obtain ⟨b, hb⟩ : ∃ b, oc t = b + 1 := ⟨oc t - 1, by omega⟩
      rw [hb]; exact nI_pred b
    rw [e1]
    exact pk_eq j (oc t - 1) (fun y => c97 (by rw [hbn, if_pos ⟨z, y⟩]; omega)) (fun y => c96 (by rw [hbn, if_neg (by omega)]))
theorem x_sc27 {post : SX → Prop} {f n : Nat} {kN oc sp bd bi : Nat → Nat} {vl : Nat → Int32} (hf : f < 5) (hl : a_lengths f = nI n) (hx : xt_ok f n a_kinds a_values kN vl) (ho : xo_ok n kN vl oc a_lengths a_parameterCounts) (hbw : bw_is n oc sp) (htr : tr_ok n kN oc sp bd bi) (hb50 : ∀ s, s < n → bd s ≤ 100)
    (hsp : ∀ s, s < n → a_spans (f * 24 + s) = nI (sp s))
    (hP : ∀ bo bin, (∀ j, j < f * 24 ∨ f * 24 + 24 ≤ j → bo j = a_bounds j ∧ bin j = a_binders j) → (∀ s, s < n → sc_at f bo bin bd bi s) → post (f_saidPlace, f_instanceCount, f_nodeCount, f_equationCount, f_stackCount, f_wordCount, f_depth, f_cellCount, f_consCount, f_closureCount, f_stepCount, f_runAnswer, f_writtenCount, a_kinds, a_values, a_spans, bo, bin, a_lengths, a_parameterCounts, a_typeCodes, a_typeLengths, a_instanceFunctions, a_nodeKinds, a_nodeLefts, a_nodeRights, a_nodeSizes, a_equationLefts, a_equationRights, a_stackLefts, a_stackRights, a_words, a_boundWords, a_cellFirsts, a_cellSeconds, a_closureTokens, a_closureWords, a_written)) :
    ∀ q t fu bo bin, t + q = n → q < fu → (∀ j, j < f * 24 ∨ f * 24 + 24 ≤ j → bo j = a_bounds j ∧ bin j = a_binders j) → sc_at f bo bin bd bi 0 → (∀ u, u < t → ∀ j, j < oc u → sc_at f bo bin bd bi (jp sp u j)) →
      wX_markScopes_27 post (nI f) f_saidPlace f_instanceCount f_nodeCount f_equationCount f_stackCount f_wordCount f_depth f_cellCount f_consCount f_closureCount f_stepCount f_runAnswer f_writtenCount fu (nI t) a_kinds a_values a_spans bo bin a_lengths a_parameterCounts a_typeCodes a_typeLengths a_instanceFunctions a_nodeKinds a_nodeLefts a_nodeRights a_nodeSizes a_equationLefts a_equationRights a_stackLefts a_stackRights a_words a_boundWords a_cellFirsts a_cellSeconds a_closureTokens a_closureWords a_written := by
  have n24 := hx.1
  have par : ∀ t bo bin, t ≤ n → sc_at f bo bin bd bi 0 → (∀ u, u < t → ∀ j, j < oc u → sc_at f bo bin bd bi (jp sp u j)) → ∀ s, s < n → s ≤ t → sc_at f bo bin bd bi s := by
    intro t bo bin ht h0 hu s hs hst
    by_cases z : s = 0
    · rw [z]; exact h0
    · obtain ⟨v, j, a, b, c⟩ := bw_parent hbw (by omega) hs
      rw [c]; exact hu v (by omega) j b
  intro q
  induction q with
  | zero =>
    intro t fu bo bin ht hfu h1 h2 h3
    obtain ⟨fu, rfl⟩ : ∃ g, fu = g + 1 := ⟨fu - 1, by omega⟩
    have e : t = n := by omega
    subst e
    refine And.intro (pk_in f 11 (by omega)) ?_
    rw [nI_clamp (n := f) (by omega), hl]
    exact br_t (nI_le (Nat.le_refl _) (by omega)) (hP bo bin h1 (fun s hs => par t bo bin (Nat.le_refl _) h2 h3 s hs (by omega)))
  | succ q ih =>
    intro t fu bo bin ht hfu h1 h2 h3
    obtain ⟨fu, rfl⟩ : ∃ g, fu = g + 1 := ⟨fu - 1, by omega⟩
    have htn : t < n := by omega
    obtain ⟨b1, b2, _, _, _⟩ := hx.2 t htn
    obtain ⟨o1, o2, _⟩ := ho t htn
    refine And.intro (pk_in f 11 (by omega)) ?_
    rw [nI_clamp (n := f) (by omega), hl]
    refine br_f (nI_ge (by omega) (by omega)) (nm_r (ix_24 f t) (x_oc (by omega) htn hx ho (And.intro (pk_in (f * 24 + t) 264 (by omega)) ?_)))
    rw [nI_clamp (n := f * 24 + t) (by omega), b1]
    refine x_boundBy b2 (nm_r (nI_1 (f * 24 + t)) (Exists.intro (oc t + 1) ?_))
    refine x_sc71 (J27 := wX_markScopes_27 post (nI f) f_saidPlace f_instanceCount f_nodeCount f_equationCount f_stackCount f_wordCount f_depth f_cellCount f_consCount f_closureCount f_stepCount f_runAnswer f_writtenCount fu) hf n24 htn hbw htr b2 o2 o1 hb50 hsp (fun bo' bin' k1 k2 k3 => ?_) (oc t) 0 (oc t + 1) bo bin (by omega) (by omega) (fun _ _ => ⟨rfl, rfl⟩) (fun s _ h => h) (par t bo bin (by omega) h2 h3 t htn (Nat.le_refl _)) (fun i hi => by omega)
    rw [nI_1]
    refine ih (t + 1) fu bo' bin' (by omega) (by omega) (fun j hj => ⟨(k1 j hj).1.trans (h1 j hj).1, (k1 j hj).2.trans (h1 j hj).2⟩) (k2 0 (by omega) h2) (fun u hu j hj => ?_)
    by_cases z : u = t
    · subst z; exact k3 j hj
    · exact k2 _ ((bw_in hbw (by omega) hj).2.2) (h3 u (by omega) j hj)
theorem x_markScopes {post : SX → Prop} {f n P : Nat} {kN oc sp bd bi : Nat → Nat} {vl : Nat → Int32} (hf : f < 5) (hl : a_lengths f = nI n) (hpc : a_parameterCounts f = nI P) (hx : xt_ok f n a_kinds a_values kN vl) (ho : xo_ok n kN vl oc a_lengths a_parameterCounts) (hbw : bw_is n oc sp) (htr : tr_ok n kN oc sp bd bi) (hb50 : ∀ s, s < n → bd s ≤ 100) (hb0 : bd 0 = P)
    (hsp : ∀ s, s < n → a_spans (f * 24 + s) = nI (sp s))
    (hP : ∀ bo bin, (∀ j, j < f * 24 ∨ f * 24 + 24 ≤ j → bo j = a_bounds j ∧ bin j = a_binders j) → (∀ s, s < n → sc_at f bo bin bd bi s) → post (f_saidPlace, f_instanceCount, f_nodeCount, f_equationCount, f_stackCount, f_wordCount, f_depth, f_cellCount, f_consCount, f_closureCount, f_stepCount, f_runAnswer, f_writtenCount, a_kinds, a_values, a_spans, bo, bin, a_lengths, a_parameterCounts, a_typeCodes, a_typeLengths, a_instanceFunctions, a_nodeKinds, a_nodeLefts, a_nodeRights, a_nodeSizes, a_equationLefts, a_equationRights, a_stackLefts, a_stackRights, a_words, a_boundWords, a_cellFirsts, a_cellSeconds, a_closureTokens, a_closureWords, a_written)) : wpX_markScopes post (f_saidPlace, f_instanceCount, f_nodeCount, f_equationCount, f_stackCount, f_wordCount, f_depth, f_cellCount, f_consCount, f_closureCount, f_stepCount, f_runAnswer, f_writtenCount, a_kinds, a_values, a_spans, a_bounds, a_binders, a_lengths, a_parameterCounts, a_typeCodes, a_typeLengths, a_instanceFunctions, a_nodeKinds, a_nodeLefts, a_nodeRights, a_nodeSizes, a_equationLefts, a_equationRights, a_stackLefts, a_stackRights, a_words, a_boundWords, a_cellFirsts, a_cellSeconds, a_closureTokens, a_closureWords, a_written) (nI f) := by
  have n24 := hx.1
  have e24 : nI f * 24 = nI (f * 24) := pk_mul f 24
  have ce : (nI f * 24).toNatClampNeg = f * 24 := by rw [e24]; exact nI_clamp (by omega)
  refine And.intro (pk_in f 11 (by omega)) (And.intro (pk_in (f * 24) 264 (by omega) e24) (nm_r (e' := upd a_bounds (f * 24) (nI P)) (by rw [ce, nI_clamp (by omega), hpc]) (And.intro (pk_in (f * 24) 264 (by omega) e24) (nm_r (e' := upd a_binders (f * 24) (-1)) (by rw [ce]) (Exists.intro (n + 1) ?_)))))
  refine x_sc27 (bd := bd) (bi := bi) hf hl hx ho hbw htr hb50 hsp (fun bo bin k1 k2 => hP bo bin (fun j hj => ?_) k2) n 0 (n + 1) _ _ (by omega) (by omega) (fun _ _ => ⟨rfl, rfl⟩) ⟨by rw [Nat.add_zero, pk_us, hb0], by rw [Nat.add_zero, pk_us, htr.1, if_pos rfl]⟩ (fun u hu => by omega)
  obtain ⟨a, b⟩ := k1 j hj
  rw [a, b, pk_un (by omega), pk_un (by omega)]; exact ⟨rfl, rfl⟩

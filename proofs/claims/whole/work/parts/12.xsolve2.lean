variable {f_saidPlace f_instanceCount f_nodeCount f_equationCount f_stackCount f_wordCount f_depth f_cellCount f_consCount f_closureCount f_stepCount f_runAnswer f_writtenCount : Int32} {a_kinds a_values a_spans a_bounds a_binders a_lengths a_parameterCounts a_typeCodes a_typeLengths a_instanceFunctions a_nodeKinds a_nodeLefts a_nodeRights a_nodeSizes a_equationLefts a_equationRights a_stackLefts a_stackRights a_words a_boundWords a_cellFirsts a_cellSeconds a_closureTokens a_closureWords a_written : Nat → Int32}
/-- what is known of the solutions S0 while equations wait -/
def so_w (S0 : (Nat → mt_T) → Prop) (x : Int32) (T : (Nat → mt_T) → Prop) : Prop := (x = 1 ∧ ∀ r, S0 r ↔ T r) ∨ (x = 0 ∧ ∀ r, ¬ S0 r)
theorem so_n {S0 T : (Nat → mt_T) → Prop} {x : Int32} (h : so_w S0 x T) : narrow .boolean (.int x) = .int x := by
  rcases h with ⟨rfl, _⟩ | ⟨rfl, _⟩ <;> rfl
theorem so_i {S0 T T' : (Nat → mt_T) → Prop} {x : Int32} (h : so_w S0 x T) (e : ∀ r, T r ↔ T' r) : so_w S0 x T' := by
  rcases h with ⟨a, b⟩ | h
  · exact Or.inl ⟨a, fun r => (b r).trans (e r)⟩
  · exact Or.inr h
theorem so_0 {S0 T T' : (Nat → mt_T) → Prop} {x : Int32} (h : so_w S0 x T) (e : ∀ r, ¬ T r) : so_w S0 0 T' := by
  rcases h with ⟨_, b⟩ | ⟨_, b⟩
  · exact Or.inr ⟨rfl, fun r z => e r ((b r).mp z)⟩
  · exact Or.inr ⟨rfl, b⟩
theorem x_solve4 {post : Int32 → SX → Prop} {N : Nat} {R : Nat → Nat} {S0 : (Nat → mt_T) → Prop} (hN : N ≤ 1126)
    (hP : ∀ x1 K' nl' el' er' L' rt' ds', xg_ok N K' nl' a_nodeRights L' R rt' ds' → so_w S0 x1 (gr_sat N K' L' R) →
      post x1 (f_saidPlace, f_instanceCount, f_nodeCount, (nI 0), f_stackCount, f_wordCount, f_depth, f_cellCount, f_consCount, f_closureCount, f_stepCount, f_runAnswer, f_writtenCount, a_kinds, a_values, a_spans, a_bounds, a_binders, a_lengths, a_parameterCounts, a_typeCodes, a_typeLengths, a_instanceFunctions, K', nl', a_nodeRights, a_nodeSizes, el', er', a_stackLefts, a_stackRights, a_words, a_boundWords, a_cellFirsts, a_cellSeconds, a_closureTokens, a_closureWords, a_written)) :
    ∀ μ f i x1 e K nl el er L rt ds EL ER, xg_ok N K nl a_nodeRights L R rt ds → e + (N - lk_ct K N) ≤ 1150 → eq_ok N e el er EL ER →
      so_w S0 x1 (fun r => gr_sat N K L R r ∧ eq_all e EL ER r) → e + 3 * (N - lk_ct K N) ≤ μ → μ < f → i + μ < 1000000 →
      wX_solve_4 post f x1 (nI i) f_saidPlace f_instanceCount f_nodeCount (nI e) f_stackCount f_wordCount f_depth f_cellCount f_consCount f_closureCount f_stepCount f_runAnswer f_writtenCount a_kinds a_values a_spans a_bounds a_binders a_lengths a_parameterCounts a_typeCodes a_typeLengths a_instanceFunctions K nl a_nodeRights a_nodeSizes el er a_stackLefts a_stackRights a_words a_boundWords a_cellFirsts a_cellSeconds a_closureTokens a_closureWords a_written := by
  intro μ
  induction μ with
  | zero =>
    intro f i x1 e K nl el er L rt ds EL ER hg hE hq hS hμ hf hi
    obtain ⟨f, rfl⟩ : ∃ g, f = g + 1 := ⟨f - 1, by omega⟩
    have e0 : e = 0 := by omega
    subst e0
    have hS' : so_w S0 x1 (gr_sat N K L R) := so_i hS (fun r => ⟨fun h => h.1, fun h => ⟨h, fun i hi => by omega⟩⟩)
    refine pk_le 1000000 i (fun h => by omega) (fun _ => br_t (by decide) (And.intro (so_n hS) ?_))
    exact hP x1 K nl el er L rt ds hg hS'
  | succ μ ih =>
    intro f i x1 e K nl el er L rt ds EL ER hg hE hq hS hμ hf hi
    obtain ⟨f, rfl⟩ : ∃ g, f = g + 1 := ⟨f - 1, by omega⟩
    by_cases e0 : e = 0
    · subst e0
      have hS' : so_w S0 x1 (gr_sat N K L R) := so_i hS (fun r => ⟨fun h => h.1, fun h => ⟨h, fun i hi => by omega⟩⟩)
      refine pk_le 1000000 i (fun h => by omega) (fun _ => br_t (by decide) (And.intro (so_n hS) ?_))
      exact hP x1 K nl el er L rt ds hg hS'
    obtain ⟨e, rfl⟩ : ∃ g, e = g + 1 := ⟨e - 1, by omega⟩
    obtain ⟨q1, q2, q3, q4⟩ := hq e (by omega)
    have hl0 := lk_le K N
    have hlt : lk_ct K N < N := lk_lt (hg.2 (EL e) q2).2.1 N (hg.2 (EL e) q2).1
    refine pk_le 1000000 i (fun h => by omega) (fun _ => br_f (nI_nle (by omega) (by omega)) (nm_r (nI_pred e) (And.intro (pk_in e 1150 (by omega)) ?_)))
    rw [nI_clamp (n := e) (by omega), q1, q3]
    refine x_root hN hg q2 (And.intro (pk_in e 1150 (by omega)) (x_root hN hg q4 ?_))
    obtain ⟨a1, a2, _, _, _⟩ := hg.2 (EL e) q2
    obtain ⟨b1, b2, _, _, _⟩ := hg.2 (ER e) q4
    refine pk_eq (rt (EL e)) (rt (ER e)) (fun heq => nm_r (nI_1 i) ?_) (fun hne => ?_)
    · refine ih f (i + 1) x1 e K nl el er L rt ds EL ER hg (by omega) (eq_low hq) (so_i hS (fun r => ?_)) (by omega) (by omega) (by omega)
      rw [eq_lowa]
      refine ⟨fun h => ⟨h.1, h.2.1⟩, fun h => ⟨h.1, h.2, ?_⟩⟩
      rw [fo_eq hg.2 h.1 _ (EL e) q2 rfl, fo_eq hg.2 h.1 _ (ER e) q4 rfl, heq]
    · have key : ∀ r, gr_sat N K L R r ∧ eq_all (e + 1) EL ER r ↔ eq_all e EL ER r ∧ r (rt (EL e)) = r (rt (ER e)) ∧ gr_sat N K L R r := by
        intro r
        rw [eq_lowa]
        refine ⟨fun h => ⟨h.2.1, ?_, h.1⟩, fun h => ⟨h.2.2, h.1, ?_⟩⟩
        · rw [← fo_eq hg.2 h.1 _ (EL e) q2 rfl, ← fo_eq hg.2 h.1 _ (ER e) q4 rfl]; exact h.2.2
        · rw [fo_eq hg.2 h.2.2 _ (EL e) q2 rfl, fo_eq hg.2 h.2.2 _ (ER e) q4 rfl]; exact h.2.1
      have go : ∀ x1' e' el' er' EL' ER' (K' nl' : Nat → Int32) L' rt' ds', xg_ok N K' nl' a_nodeRights L' R rt' ds' → lk_ct K' N = lk_ct K N + 1 → e' ≤ e + 2 → eq_ok N e' el' er' EL' ER' →
          so_w S0 x1' (fun r => gr_sat N K' L' R r ∧ eq_all e' EL' ER' r) →
          wX_solve_4 post f x1' (nI (i + 1)) f_saidPlace f_instanceCount f_nodeCount (nI e') f_stackCount f_wordCount f_depth f_cellCount f_consCount f_closureCount f_stepCount f_runAnswer f_writtenCount a_kinds a_values a_spans a_bounds a_binders a_lengths a_parameterCounts a_typeCodes a_typeLengths a_instanceFunctions K' nl' a_nodeRights a_nodeSizes el' er' a_stackLefts a_stackRights a_words a_boundWords a_cellFirsts a_cellSeconds a_closureTokens a_closureWords a_written := by
        intro x1' e' el' er' EL' ER' K' nl' L' rt' ds' hg' hl' he' hq' hS'
        exact ih f (i + 1) x1' e' K' nl' el' er' L' rt' ds' EL' ER' hg' (by omega) hq' hS' (by omega) (by omega) (by omega)
      have fin : ∀ e' el' er' EL' ER' (K' nl' : Nat → Int32) L' rt' ds', xg_ok N K' nl' a_nodeRights L' R rt' ds' → lk_ct K' N = lk_ct K N + 1 → e' ≤ e + 2 → eq_ok N e' el' er' EL' ER' →
          so_w S0 x1 (fun r => gr_sat N K' L' R r ∧ eq_all e' EL' ER' r) →
          ((1 : Int32) = 0 → ∀ y, y = nI i + 1 → wX_solve_4 post f 0 y f_saidPlace f_instanceCount f_nodeCount (nI e') f_stackCount f_wordCount f_depth f_cellCount f_consCount f_closureCount f_stepCount f_runAnswer f_writtenCount a_kinds a_values a_spans a_bounds a_binders a_lengths a_parameterCounts a_typeCodes a_typeLengths a_instanceFunctions K' nl' a_nodeRights a_nodeSizes el' er' a_stackLefts a_stackRights a_words a_boundWords a_cellFirsts a_cellSeconds a_closureTokens a_closureWords a_written) ∧
          (¬ (1 : Int32) = 0 → (x1 = 0 → ∀ y, y = nI i + 1 → wX_solve_4 post f 0 y f_saidPlace f_instanceCount f_nodeCount (nI e') f_stackCount f_wordCount f_depth f_cellCount f_consCount f_closureCount f_stepCount f_runAnswer f_writtenCount a_kinds a_values a_spans a_bounds a_binders a_lengths a_parameterCounts a_typeCodes a_typeLengths a_instanceFunctions K' nl' a_nodeRights a_nodeSizes el' er' a_stackLefts a_stackRights a_words a_boundWords a_cellFirsts a_cellSeconds a_closureTokens a_closureWords a_written) ∧
            (¬ x1 = 0 → ∀ y, y = nI i + 1 → wX_solve_4 post f 1 y f_saidPlace f_instanceCount f_nodeCount (nI e') f_stackCount f_wordCount f_depth f_cellCount f_consCount f_closureCount f_stepCount f_runAnswer f_writtenCount a_kinds a_values a_spans a_bounds a_binders a_lengths a_parameterCounts a_typeCodes a_typeLengths a_instanceFunctions K' nl' a_nodeRights a_nodeSizes el' er' a_stackLefts a_stackRights a_words a_boundWords a_cellFirsts a_cellSeconds a_closureTokens a_closureWords a_written)) := by
        intro e' el' er' EL' ER' K' nl' L' rt' ds' hg' hl' he' hq' hS'
        refine br_f n1_0 (br_c (fun hx => nm_r (nI_1 i) ?_) (fun hx => nm_r (nI_1 i) ?_))
        · subst hx; exact go 0 e' el' er' EL' ER' K' nl' L' rt' ds' hg' hl' he' hq' hS'
        · have h1 : x1 = 1 := by rcases hS' with ⟨z, _⟩ | ⟨z, _⟩; exact z; exact absurd z hx
          subst h1; exact go 1 e' el' er' EL' ER' K' nl' L' rt' ds' hg' hl' he' hq' hS'
      refine x_join hN hg a1 b1 (by omega) (eq_low hq) a2 b2 (fun ca cb hk => ?_) (fun ka => ?_) (fun kb => ?_) (fun ca hk e' el' er' EL' ER' he' hq' hr' => ?_)
      · refine br_t rfl (nm_r (nI_1 i) ?_)
        refine ih f (i + 1) 0 e K nl el er L rt ds EL ER hg (by omega) (eq_low hq) (so_0 hS (fun r z => ?_)) (by omega) (by omega) (by omega)
        exact gr_clash a1 b1 ca cb hk z.1 ((key r).mp z).2.1
      · obtain ⟨rt', ds', hg', hl'⟩ := xg_link hg a1 b1 hne a2 b2
        refine fin e el er EL ER _ _ _ rt' ds' hg' hl' (by omega) (eq_low hq) (so_i hS (fun r => ?_))
        rw [key, gr_join_v (K := K) (L := L) (R := R) (R' := R) a1 pk_us uN_s (fun j _ hj => pk_un hj) (fun j _ hj => uN_n hj) (fun _ _ _ => rfl) ka]
        exact ⟨fun h => ⟨h.2, h.1⟩, fun h => ⟨h.2, h.1⟩⟩
      · obtain ⟨rt', ds', hg', hl'⟩ := xg_link hg b1 a1 (Ne.symm hne) b2 a2
        refine fin e el er EL ER _ _ _ rt' ds' hg' hl' (by omega) (eq_low hq) (so_i hS (fun r => ?_))
        rw [key, gr_join_v (K := K) (L := L) (R := R) (R' := R) b1 pk_us uN_s (fun j _ hj => pk_un hj) (fun j _ hj => uN_n hj) (fun _ _ _ => rfl) kb]
        exact ⟨fun h => ⟨⟨h.2.1.symm, h.2.2⟩, h.1⟩, fun h => ⟨h.2, h.1.1.symm, h.1.2⟩⟩
      · obtain ⟨rt', ds', hg', hl'⟩ := xg_link hg a1 b1 hne a2 b2
        refine fin e' el' er' EL' ER' _ _ _ rt' ds' hg' hl' he' hq' (so_i hS (fun r => ?_))
        have hj := gr_join_c (r := r) (K := K) (L := L) (R := R) (R' := R) a1 b1 hne pk_us uN_s (fun j _ hj => pk_un hj) (fun j _ hj => uN_n hj) (fun _ _ _ => rfl) ca hk
        rw [key, ← hj, hr' r]
        exact ⟨fun h => ⟨h.2.1, h.1, h.2.2⟩, fun h => ⟨h.2.1, h.1, h.2.2⟩⟩
theorem x_solve {post : Int32 → SX → Prop} {N e : Nat} {L R rt ds EL ER : Nat → Nat} {S0 : (Nat → mt_T) → Prop} (hN : N ≤ 1126) (he : e ≤ 24)
    (hg : xg_ok N a_nodeKinds a_nodeLefts a_nodeRights L R rt ds) (hq : eq_ok N e a_equationLefts a_equationRights EL ER)
    (hS : ∀ r, S0 r ↔ gr_sat N a_nodeKinds L R r ∧ eq_all e EL ER r)
    (hP : ∀ x1 K' nl' el' er' L' rt' ds', xg_ok N K' nl' a_nodeRights L' R rt' ds' → so_w S0 x1 (gr_sat N K' L' R) →
      post x1 (f_saidPlace, f_instanceCount, f_nodeCount, (nI 0), f_stackCount, f_wordCount, f_depth, f_cellCount, f_consCount, f_closureCount, f_stepCount, f_runAnswer, f_writtenCount, a_kinds, a_values, a_spans, a_bounds, a_binders, a_lengths, a_parameterCounts, a_typeCodes, a_typeLengths, a_instanceFunctions, K', nl', a_nodeRights, a_nodeSizes, el', er', a_stackLefts, a_stackRights, a_words, a_boundWords, a_cellFirsts, a_cellSeconds, a_closureTokens, a_closureWords, a_written)) :
    wpX_solve post (f_saidPlace, f_instanceCount, f_nodeCount, (nI e), f_stackCount, f_wordCount, f_depth, f_cellCount, f_consCount, f_closureCount, f_stepCount, f_runAnswer, f_writtenCount, a_kinds, a_values, a_spans, a_bounds, a_binders, a_lengths, a_parameterCounts, a_typeCodes, a_typeLengths, a_instanceFunctions, a_nodeKinds, a_nodeLefts, a_nodeRights, a_nodeSizes, a_equationLefts, a_equationRights, a_stackLefts, a_stackRights, a_words, a_boundWords, a_cellFirsts, a_cellSeconds, a_closureTokens, a_closureWords, a_written) :=
  Exists.intro 5000 (x_solve4 hN hP 4999 5000 0 1 e _ _ _ _ L rt ds EL ER hg (by omega) hq (Or.inl ⟨rfl, hS⟩) (by omega) (by omega) (by omega))

variable {f_saidPlace f_instanceCount f_nodeCount f_equationCount f_stackCount f_wordCount f_depth f_cellCount f_consCount f_closureCount f_stepCount f_runAnswer f_writtenCount : Int32} {a_kinds a_values a_spans a_bounds a_binders a_lengths a_parameterCounts a_typeCodes a_typeLengths a_instanceFunctions a_nodeKinds a_nodeLefts a_nodeRights a_nodeSizes a_equationLefts a_equationRights a_stackLefts a_stackRights a_words a_boundWords a_cellFirsts a_cellSeconds a_closureTokens a_closureWords a_written : Nat → Int32}
theorem ix_24 (f t : Nat) : nI f * 24 + nI t = nI (f * 24 + t) := by rw [← nI_add]; exact congrArg (· + nI t) (pk_mul f 24)
theorem ix_42 (f t : Nat) : nI f * 42 + nI t = nI (f * 42 + t) := by rw [← nI_add]; exact congrArg (· + nI t) (pk_mul f 42)
theorem ix_2 (t : Nat) : 24 + 2 * nI t = nI (24 + 2 * t) := by
  have : (2 : Int32) * nI t = nI (2 * t) := pk_mul 2 t
  rw [this]; exact nI_add 24 (2 * t)
theorem ix_72 (k : Nat) : 72 + nI k = nI (72 + k) := nI_add 72 k
theorem ni_ne1 {a : Nat} (h : a < 2 ^ 31) : ¬ nI a = -1 := by
  intro e
  have : (nI a).toInt = (-1 : Int32).toInt := by rw [e]
  rw [nI_toInt h] at this
  have h2 : (-1 : Int32).toInt = -1 := by decide
  omega
/-- the solutions at hand: of the nodes below N and of e equations that wait -/
def A0 (N e : Nat) (K : Nat → Int32) (L R EL ER : Nat → Nat) (r : Nat → mt_T) : Prop := gr_sat N K L R r ∧ eq_all e EL ER r
/-- what is stated: from the nodes below N to those below N', with the equations -/
def st_ok (N e : Nat) (K : Nat → Int32) (L R EL ER : Nat → Nat) (N' e' : Nat) (K' : Nat → Int32) (L' R' EL' ER' : Nat → Nat) (rule : (Nat → mt_T) → Prop) : Prop :=
  (∀ r, (∀ n, mt_wf (r n)) → gr_sat N' K' L' R' r → eq_all e' EL' ER' r → A0 N e K L R EL ER r ∧ rule r) ∧
  (∀ r, (∀ n, mt_wf (r n)) → A0 N e K L R EL ER r → rule r → ∃ r', (∀ n, mt_wf (r' n)) ∧ (∀ n, n < N → r' n = r n) ∧ gr_sat N' K' L' R' r' ∧ eq_all e' EL' ER' r')
/-- the solutions after some nodes and equations -/
def cu_is (N' e' : Nat) (K' : Nat → Int32) (L' R' EL' ER' : Nat → Nat) (C : (Nat → mt_T) → Prop) : Prop := ∀ r, gr_sat N' K' L' R' r ∧ eq_all e' EL' ER' r ↔ C r
theorem cu_eq {N e : Nat} {K : Nat → Int32} {L R EL ER : Nat → Nat} {C : (Nat → mt_T) → Prop} {a b : Nat} (h : cu_is N e K L R EL ER C) : cu_is N (e + 1) K L R (updN EL e a) (updN ER e b) (fun r => C r ∧ r a = r b) := by
  intro r
  rw [eq_upa, ← and_assoc, h r]
theorem cu_new {N e : Nat} {K K' : Nat → Int32} {L R L' R' EL ER : Nat → Nat} {C D : (Nat → mt_T) → Prop} (h : cu_is N e K L R EL ER C) (hn : ∀ r, gr_sat (N + 1) K' L' R' r ↔ gr_sat N K L R r ∧ D r) :
    cu_is (N + 1) e K' L' R' EL ER (fun r => C r ∧ D r) := by
  intro r
  show _ ↔ C r ∧ D r
  rw [hn, ← h r]
  exact ⟨fun ⟨⟨a, b⟩, c⟩ => ⟨⟨a, c⟩, b⟩, fun ⟨⟨a, c⟩, b⟩ => ⟨⟨a, b⟩, c⟩⟩
theorem cu_e {N e : Nat} {K : Nat → Int32} {L R EL ER : Nat → Nat} : cu_is N e K L R EL ER (A0 N e K L R EL ER) := fun r => Iff.rfl
/-- what the call of a stating method asks for behind it -/
def xs_post (post : SX → Prop) (N M : Nat) (f_saidPlace f_instanceCount f_nodeCount f_equationCount f_stackCount f_wordCount f_depth f_cellCount f_consCount f_closureCount f_stepCount f_runAnswer f_writtenCount : Int32) (a_kinds a_values a_spans a_bounds a_binders a_lengths a_parameterCounts a_typeCodes a_typeLengths a_instanceFunctions a_nodeKinds a_nodeLefts a_nodeRights a_nodeSizes a_equationLefts a_equationRights a_stackLefts a_stackRights a_words a_boundWords a_cellFirsts a_cellSeconds a_closureTokens a_closureWords a_written : Nat → Int32) (e0 : Nat) (L R EL0 ER0 : Nat → Nat) (rule : (Nat → mt_T) → Prop) : Prop :=
  ∀ (N' e' : Nat) (K' nl' nr' sz' el' er' : Nat → Int32) (L' R' rt' ds' EL' ER' : Nat → Nat), N ≤ N' → N' ≤ M → e' ≤ e0 + 4 → xg_ok N' K' nl' nr' L' R' rt' ds' → eq_ok N' e' el' er' EL' ER' →
    st_ok N e0 a_nodeKinds L R EL0 ER0 N' e' K' L' R' EL' ER' rule →
    post (f_saidPlace, f_instanceCount, (nI N'), (nI e'), f_stackCount, f_wordCount, f_depth, f_cellCount, f_consCount, f_closureCount, f_stepCount, f_runAnswer, f_writtenCount, a_kinds, a_values, a_spans, a_bounds, a_binders, a_lengths, a_parameterCounts, a_typeCodes, a_typeLengths, a_instanceFunctions, K', nl', nr', sz', el', er', a_stackLefts, a_stackRights, a_words, a_boundWords, a_cellFirsts, a_cellSeconds, a_closureTokens, a_closureWords, a_written)
theorem st_1 {N : Nat} {K : Nat → Int32} {L R EL ER EL0 ER0 : Nat → Nat} {e e0 : Nat} {C rule : (Nat → mt_T) → Prop} (h : cu_is N e K L R EL ER C) (hC : ∀ r, (∀ n, mt_wf (r n)) → (C r ↔ A0 N e0 K L R EL0 ER0 r ∧ rule r)) :
    st_ok N e0 K L R EL0 ER0 N e K L R EL ER rule := by
  refine ⟨fun r hw h1 h2 => (hC r hw).mp ((h r).mp ⟨h1, h2⟩), fun r hw h1 h2 => ?_⟩
  have := (h r).mpr ((hC r hw).mpr ⟨h1, h2⟩)
  exact ⟨r, hw, fun _ _ => rfl, this.1, this.2⟩
theorem x_var34 {post : Int32 → Prop} {f n v : Nat} {bd bi : Nat → Nat} (hf : f ≤ 10) (hn : n ≤ 24)
    (hb : ∀ t, t < n → a_bounds (f * 24 + t) = nI (bd t) ∧ bd t ≤ 12 ∧ a_binders (f * 24 + t) = (if bi t = 0 then -1 else nI (bi t - 1)) ∧ bi t ≤ t) (hv : v < 10) :
    ∀ fu b i, b ≤ n → b + i ≤ 24 → b < fu → post (nI (vw bi bd b b v)) → wX_variableNode_34 post (nI f) (nI v) (72 + nI v) f_saidPlace f_instanceCount f_nodeCount f_equationCount f_stackCount f_wordCount f_depth f_cellCount f_consCount f_closureCount f_stepCount f_runAnswer f_writtenCount a_kinds a_values a_spans a_bounds a_binders a_lengths a_parameterCounts a_typeCodes a_typeLengths a_instanceFunctions a_nodeKinds a_nodeLefts a_nodeRights a_nodeSizes a_equationLefts a_equationRights a_stackLefts a_stackRights a_words a_boundWords a_cellFirsts a_cellSeconds a_closureTokens a_closureWords a_written fu (if b = 0 then -1 else nI (b - 1)) (nI i) := by
  intro fu
  induction fu with
  | zero => intro b i _ _ h; omega
  | succ fu ih =>
    intro b i hb1 hb2 hb3 hp
    by_cases b0 : b = 0
    · subst b0
      have : post (72 + nI v) := by rw [ix_72]; exact hp
      exact pk_le 24 i (fun _ => this) (fun _ => br_t rfl this)
    · obtain ⟨c, rfl⟩ : ∃ c, b = c + 1 := ⟨b - 1, by omega⟩
      obtain ⟨e1, e2, e3, e4⟩ := hb c (by omega)
      have ec : (if c + 1 = 0 then (-1 : Int32) else nI (c + 1 - 1)) = nI c := by rw [if_neg (by omega)]; rfl
      rw [ec]
      refine pk_le 24 i (fun h => by omega) (fun _ => br_f (ni_ne1 (by omega)) ?_)
      rw [ix_24, nI_clamp (by omega), e1]
      refine And.intro (pk_in (f * 24 + c) 264 (by omega)) (nm_e ?_)
      have hvw : vw bi bd (c + 1) (c + 1) v = if bd c ≤ v then 24 + 2 * c + (v - bd c) else vw bi bd c (bi c) v := by
        simp only [vw, if_neg (show ¬ c + 1 = 0 by omega), Nat.add_sub_cancel]
      rw [hvw] at hp
      refine pk_lt v (bd c) (fun h => ?_) (fun h => ?_)
      · rw [if_neg (by omega)] at hp
        refine And.intro (pk_in (f * 24 + c) 264 (by omega)) (nm_r e3 (nm_r (nI_1 i) (ih (bi c) (i + 1) (by omega) (by omega) (by omega) ?_)))
        rw [vw_fuel' (bi c) c (bi c) v (Nat.le_refl _) e4 (fun t ht => (hb t (by omega)).2.2.2)]; exact hp
      · rw [if_pos h] at hp
        refine nm_r (e' := nI (24 + 2 * c + (v - bd c))) ?_ hp
        rw [ix_2, nI_add, pk_sub (by omega)]
        exact congrArg nI (by omega)
theorem xg_low {N : Nat} {K nl nr : Nat → Int32} {L R rt ds : Nat → Nat} (hg : xg_ok N K nl nr L R rt ds) {r r' : Nat → mt_T} (e : ∀ n, n < N → r' n = r n) (h : gr_sat N K L R r) : gr_sat N K L R r' :=
  gr_sat_low (fun n hn hk => ((hg.1 n hn).2.1 hk).2) (fun n hn hk => ((hg.1 n hn).2.2.1 hk).2) e h
theorem A0_low {N e : Nat} {K nl nr el er : Nat → Int32} {L R rt ds EL ER : Nat → Nat} (hg : xg_ok N K nl nr L R rt ds) (hq : eq_ok N e el er EL ER) {r r' : Nat → mt_T} (h0 : ∀ n, n < N → r' n = r n) (h : A0 N e K L R EL ER r) : A0 N e K L R EL ER r' := by
  refine ⟨xg_low hg h0 h.1, fun i hi => ?_⟩
  obtain ⟨_, a, _, b⟩ := hq i hi
  rw [h0 _ a, h0 _ b]; exact h.2 i hi
theorem st_2 {N N' e e0 : Nat} {K K' nl nr el er : Nat → Int32} {L R L' R' rt ds EL ER EL0 ER0 : Nat → Nat} {C rule : (Nat → mt_T) → Prop} (hg : xg_ok N K nl nr L R rt ds) (hq : eq_ok N e0 el er EL0 ER0) (h : cu_is N' e K' L' R' EL ER C)
    (fw : ∀ r, (∀ n, mt_wf (r n)) → C r → A0 N e0 K L R EL0 ER0 r ∧ rule r)
    (bw : ∀ r, (∀ n, mt_wf (r n)) → A0 N e0 K L R EL0 ER0 r → rule r → ∃ r', (∀ n, mt_wf (r' n)) ∧ (∀ n, n < N → r' n = r n) ∧ (A0 N e0 K L R EL0 ER0 r' → C r')) : st_ok N e0 K L R EL0 ER0 N' e K' L' R' EL ER rule := by
  refine ⟨fun r hw h1 h2 => fw r hw ((h r).mp ⟨h1, h2⟩), fun r hw h1 h2 => ?_⟩
  obtain ⟨r', w, e, hc⟩ := bw r hw h1 h2
  have := (h r').mpr (hc (A0_low hg hq e h1))
  exact ⟨r', w, e, this.1, this.2⟩
theorem pt_wf {r : Nat → mt_T} {n : Nat} {t : mt_T} (hr : ∀ n, mt_wf (r n)) (ht : mt_wf t) : ∀ j, mt_wf (gr_put r n t j) := by
  intro j
  by_cases z : j = n
  · subst z; rw [gr_put_eq]; exact ht
  · rw [gr_put_ne z]; exact hr j
theorem x_variable {post : Int32 → Prop} {f n t v : Nat} {bd bi : Nat → Nat} (hf : f ≤ 10) (hn : n ≤ 24) (ht : t < n)
    (hb : ∀ t, t < n → a_bounds (f * 24 + t) = nI (bd t) ∧ bd t ≤ 12 ∧ a_binders (f * 24 + t) = (if bi t = 0 then -1 else nI (bi t - 1)) ∧ bi t ≤ t) (hv : v < 10) (hval : a_values (f * 24 + t) = nI v)
    (hp : post (nI (vw bi bd (bi t) (bi t) v))) : wpX_variableNode post (f_saidPlace, f_instanceCount, f_nodeCount, f_equationCount, f_stackCount, f_wordCount, f_depth, f_cellCount, f_consCount, f_closureCount, f_stepCount, f_runAnswer, f_writtenCount, a_kinds, a_values, a_spans, a_bounds, a_binders, a_lengths, a_parameterCounts, a_typeCodes, a_typeLengths, a_instanceFunctions, a_nodeKinds, a_nodeLefts, a_nodeRights, a_nodeSizes, a_equationLefts, a_equationRights, a_stackLefts, a_stackRights, a_words, a_boundWords, a_cellFirsts, a_cellSeconds, a_closureTokens, a_closureWords, a_written) (nI f) (nI t) := by
  have hc : (nI f * 24 + nI t).toNatClampNeg = f * 24 + t := by rw [ix_24]; exact nI_clamp (by omega)
  refine And.intro (pk_in (f * 24 + t) 264 (by omega) (ix_24 f t)) (nm_r (e' := nI v) (by rw [hc]; exact hval) (nm_e (And.intro (pk_in (f * 24 + t) 264 (by omega) (ix_24 f t)) (nm_r (e' := if bi t = 0 then -1 else nI (bi t - 1)) (by rw [hc]; exact (hb t ht).2.2.1) (Exists.intro 25 ?_)))))
  have h4 := (hb t ht).2.2.2
  exact x_var34 hf hn hb hv 25 (bi t) 0 (by omega) (by omega) (by omega) hp
theorem n10_5 : (10 : Int32) ≠ 5 := by decide
theorem n3_5 : (3 : Int32) ≠ 5 := by decide
theorem n2_5 : (2 : Int32) ≠ 5 := by decide
theorem n4_5 : (4 : Int32) ≠ 5 := by decide
theorem kd_10 : gr_kd 10 := Or.inr (Or.inr (Or.inr (Or.inr (Or.inr (Or.inr rfl)))))
theorem kd_2 : gr_kd 2 := Or.inr (Or.inr (Or.inl rfl))
theorem kd_3 : gr_kd 3 := Or.inr (Or.inr (Or.inr (Or.inl rfl)))
theorem kd_4 : gr_kd 4 := Or.inr (Or.inr (Or.inr (Or.inr (Or.inl rfl))))
theorem nlf10 : ¬ gr_lf 10 := by unfold gr_lf; decide
theorem nrg10 : ¬ gr_rg 10 := by unfold gr_rg; decide
theorem nrg3 : ¬ gr_rg 3 := by unfold gr_rg; decide
/-- INT, TRUE, FALSE, VAR, NIL -/
theorem x_stateLeaf {post : SX → Prop} {N M f n t k v P : Nat} {Lc : List Nat} {c : Nat → Nat} {own : Bool} {bd bi L R rt ds EL0 ER0 : Nat → Nat} {e0 : Nat} (hN : 76 ≤ N) (hM : N + 2 ≤ M) (hM2 : M ≤ 1126) (hf : f ≤ 10) (hn : n ≤ 24) (ht : t < n)
    (he0 : e0 ≤ 4) (hq0 : eq_ok N e0 a_equationLefts a_equationRights EL0 ER0) (hg : xg_ok N a_nodeKinds a_nodeLefts a_nodeRights L R rt ds) (hI : ∀ r, (∀ n, mt_wf (r n)) → A0 N e0 a_nodeKinds L R EL0 ER0 r → r 74 = .leaf 0 ∧ r 75 = .leaf 1)
    (hk : a_kinds (f * 24 + t) = nI k) (hk5 : k = 0 ∨ k = 1 ∨ k = 2 ∨ k = 3 ∨ k = 8)
    (hb : ∀ t, t < n → a_bounds (f * 24 + t) = nI (bd t) ∧ bd t ≤ 12 ∧ a_binders (f * 24 + t) = (if bi t = 0 then -1 else nI (bi t - 1)) ∧ bi t ≤ t) (hval : k = 3 → v < 10 ∧ a_values (f * 24 + t) = nI v)
    (hw : k = 3 → vw bi bd (bi t) (bi t) v < 74)
    (hP : xs_post post N M f_saidPlace f_instanceCount (nI N) (nI e0) f_stackCount f_wordCount f_depth f_cellCount f_consCount f_closureCount f_stepCount f_runAnswer f_writtenCount a_kinds a_values a_spans a_bounds a_binders a_lengths a_parameterCounts a_typeCodes a_typeLengths a_instanceFunctions a_nodeKinds a_nodeLefts a_nodeRights a_nodeSizes a_equationLefts a_equationRights a_stackLefts a_stackRights a_words a_boundWords a_cellFirsts a_cellSeconds a_closureTokens a_closureWords a_written e0 L R EL0 ER0 (ru_k k t c (vw bi bd (bi t) (bi t) v) own P Lc)) :
    wpX_stateLeaf post (f_saidPlace, f_instanceCount, (nI N), (nI e0), f_stackCount, f_wordCount, f_depth, f_cellCount, f_consCount, f_closureCount, f_stepCount, f_runAnswer, f_writtenCount, a_kinds, a_values, a_spans, a_bounds, a_binders, a_lengths, a_parameterCounts, a_typeCodes, a_typeLengths, a_instanceFunctions, a_nodeKinds, a_nodeLefts, a_nodeRights, a_nodeSizes, a_equationLefts, a_equationRights, a_stackLefts, a_stackRights, a_words, a_boundWords, a_cellFirsts, a_cellSeconds, a_closureTokens, a_closureWords, a_written) (nI f) (nI t) := by
  have hc : (nI f * 24 + nI t).toNatClampNeg = f * 24 + t := by rw [ix_24]; exact nI_clamp (by omega)
  have q0 := hq0
  refine And.intro (pk_in (f * 24 + t) 264 (by omega) (ix_24 f t)) (nm_r (e' := nI k) (by rw [hc]; exact hk) ?_)
  have simple : ∀ b, b < N → (∀ r, (∀ n, mt_wf (r n)) → (A0 N e0 a_nodeKinds L R EL0 ER0 r ∧ r t = r b ↔ A0 N e0 a_nodeKinds L R EL0 ER0 r ∧ ru_k k t c (vw bi bd (bi t) (bi t) v) own P Lc r)) →
      wpX_equate post (f_saidPlace, f_instanceCount, (nI N), (nI e0), f_stackCount, f_wordCount, f_depth, f_cellCount, f_consCount, f_closureCount, f_stepCount, f_runAnswer, f_writtenCount, a_kinds, a_values, a_spans, a_bounds, a_binders, a_lengths, a_parameterCounts, a_typeCodes, a_typeLengths, a_instanceFunctions, a_nodeKinds, a_nodeLefts, a_nodeRights, a_nodeSizes, a_equationLefts, a_equationRights, a_stackLefts, a_stackRights, a_words, a_boundWords, a_cellFirsts, a_cellSeconds, a_closureTokens, a_closureWords, a_written) (nI t) (nI b) := by
    intro b hb' hr
    refine x_equate (by omega) (hP N (e0 + 1) _ _ _ _ _ _ L R rt ds _ _ (Nat.le_refl _) (by omega) (by omega) hg (eq_up q0 (by omega) hb') ?_)
    exact st_1 (cu_eq cu_e) hr
  rcases hk5 with rfl | rfl | rfl | rfl | rfl
  · exact br_t rfl (simple 74 (by omega) (fun r hw' => and_congr_right (fun h => by rw [(hI r hw' h).1]; exact Iff.rfl)))
  · exact br_f (by decide) (br_f (by decide) (br_f (by decide) (simple 75 (by omega) (fun r hw' => and_congr_right (fun h => by rw [(hI r hw' h).2]; exact Iff.rfl)))))
  · exact br_f (by decide) (br_f (by decide) (br_f (by decide) (simple 75 (by omega) (fun r hw' => and_congr_right (fun h => by rw [(hI r hw' h).2]; exact Iff.rfl)))))
  · refine br_f (by decide) (br_t rfl (x_variable hf hn ht hb (hval rfl).1 (hval rfl).2 (simple _ (by have := hw rfl; omega) (fun r _ => Iff.rfl))))
  · obtain ⟨rt1, ds1, g1, s1⟩ := xg_new hg 10 (-1) (-1) 0 0 kd_10 n10_5 (fun z => absurd z nlf10) (fun z => absurd z nrg10) (fun _ => rfl)
    obtain ⟨rt2, ds2, g2, s2⟩ := xg_new g1 3 (nI N) (-1) N 0 kd_3 n3_5 (fun _ => ⟨rfl, by omega⟩) (fun z => absurd z nrg3) (fun z => absurd z (by decide))
    refine br_f (by decide) (br_f (by decide) (br_t rfl (x_newNode (by omega) (x_newNode (by omega) (x_equate (by omega) (hP (N + 1 + 1) (e0 + 1) _ _ _ _ _ _ _ _ rt2 ds2 _ _ (by omega) (by omega) (by omega) g2 (eq_up (eq_mono q0 (by omega)) (by omega) (by omega)) ?_))))))
    refine st_2 hg hq0 (cu_eq (cu_new (cu_new cu_e s1) s2)) (fun r hwf h => ?_) (fun r hwf h hr => ?_)
    · obtain ⟨⟨⟨h1, _⟩, h2⟩, h3⟩ := h
      refine ⟨h1, r N, hwf N, ?_⟩
      rw [h3]
      exact h2.elim (fun z => absurd z (by decide)) (fun z => z.trans (gr_at_3 (K := fun _ => 3) rfl))
    · obtain ⟨x, hx, e⟩ := hr
      refine ⟨gr_put (gr_put r N x) (N + 1) (.branch 3 x (.leaf 0)), pt_wf (pt_wf hwf hx) (Or.inl ⟨rfl, hx, rfl⟩), fun j hj => ?_, fun h' => ⟨⟨⟨h', Or.inl rfl⟩, Or.inr ?_⟩, ?_⟩⟩
      · rw [gr_put_ne (by omega), gr_put_ne (by omega)]
      · rw [gr_put_eq, gr_at_3 (K := fun _ => 3) rfl, gr_put_ne (by omega), gr_put_eq]
      · rw [gr_put_eq, gr_put_ne (by omega), gr_put_ne (by omega)]; exact e

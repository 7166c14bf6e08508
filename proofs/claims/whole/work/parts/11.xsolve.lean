variable {f_saidPlace f_instanceCount f_nodeCount f_equationCount f_stackCount f_wordCount f_depth f_cellCount f_consCount f_closureCount f_stepCount f_runAnswer f_writtenCount : Int32} {a_kinds a_values a_spans a_bounds a_binders a_lengths a_parameterCounts a_typeCodes a_typeLengths a_instanceFunctions a_nodeKinds a_nodeLefts a_nodeRights a_nodeSizes a_equationLefts a_equationRights a_stackLefts a_stackRights a_words a_boundWords a_cellFirsts a_cellSeconds a_closureTokens a_closureWords a_written : Nat → Int32}
def xg_ok (N : Nat) (K nl nr : Nat → Int32) (L R rt ds : Nat → Nat) : Prop :=
  (∀ n, n < N → gr_kd (K n) ∧ (K n = 5 ∨ gr_lf (K n) → nl n = nI (L n) ∧ L n < N) ∧ (gr_rg (K n) → nr n = nI (R n) ∧ R n < N) ∧ (K n = 10 → nl n = -1)) ∧
  fo_is N K L rt ds (lk_ct K N)
def updN (f : Nat → Nat) (k v : Nat) : Nat → Nat := fun j => if j = k then v else f j
theorem uN_s {f : Nat → Nat} {k v : Nat} : updN f k v k = v := if_pos rfl
theorem uN_n {f : Nat → Nat} {k v j : Nat} (h : j ≠ k) : updN f k v j = f j := if_neg h
theorem x_root4 {post : Int32 → Prop} {N : Nat} {L R rt ds : Nat → Nat} (hN : N ≤ 1126) (hg : xg_ok N a_nodeKinds a_nodeLefts a_nodeRights L R rt ds) :
    ∀ d n i f, n < N → ds n = d → i + d ≤ 1126 → d < f → post (nI (rt n)) → wX_rootOf_4 post f_saidPlace f_instanceCount f_nodeCount f_equationCount f_stackCount f_wordCount f_depth f_cellCount f_consCount f_closureCount f_stepCount f_runAnswer f_writtenCount a_kinds a_values a_spans a_bounds a_binders a_lengths a_parameterCounts a_typeCodes a_typeLengths a_instanceFunctions a_nodeKinds a_nodeLefts a_nodeRights a_nodeSizes a_equationLefts a_equationRights a_stackLefts a_stackRights a_words a_boundWords a_cellFirsts a_cellSeconds a_closureTokens a_closureWords a_written f (nI n) (nI i) := by
  intro d
  induction d with
  | zero =>
    intro n i f hn hd hi hf hp
    obtain ⟨f, rfl⟩ : ∃ g, f = g + 1 := ⟨f - 1, by omega⟩
    have hk : ¬ a_nodeKinds n = 5 := by intro z; have := ((hg.2 n hn).2.2.2.1 z).2.2; omega
    have hr := ((hg.2 n hn).2.2.1 hk).1
    rw [hr] at hp
    refine pk_le 1126 i (fun _ => hp) (fun h => And.intro (pk_in n 1126 (by omega)) ?_)
    rw [nI_clamp (n := n) (by omega)]
    exact br_f hk hp
  | succ d ih =>
    intro n i f hn hd hi hf hp
    obtain ⟨f, rfl⟩ : ∃ g, f = g + 1 := ⟨f - 1, by omega⟩
    have hk : a_nodeKinds n = 5 := Classical.byContradiction (fun z => by have := ((hg.2 n hn).2.2.1 z).2; omega)
    obtain ⟨e1, e2, e3⟩ := (hg.2 n hn).2.2.2.1 hk
    have el := ((hg.1 n hn).2.1 (Or.inl hk)).1
    refine pk_le 1126 i (fun h => by omega) (fun h => And.intro (pk_in n 1126 (by omega)) ?_)
    rw [nI_clamp (n := n) (by omega)]
    refine br_t hk (And.intro (pk_in n 1126 (by omega)) (nm_r el (nm_r (nI_1 i) ?_)))
    exact ih (L n) (i + 1) f e1 (by omega) (by omega) (by omega) (by rw [e2]; exact hp)
theorem x_root {post : Int32 → Prop} {N : Nat} {L R rt ds : Nat → Nat} (hN : N ≤ 1126) (hg : xg_ok N a_nodeKinds a_nodeLefts a_nodeRights L R rt ds) {n : Nat} (hn : n < N)
    (hp : post (nI (rt n))) : wpX_rootOf post (f_saidPlace, f_instanceCount, f_nodeCount, f_equationCount, f_stackCount, f_wordCount, f_depth, f_cellCount, f_consCount, f_closureCount, f_stepCount, f_runAnswer, f_writtenCount, a_kinds, a_values, a_spans, a_bounds, a_binders, a_lengths, a_parameterCounts, a_typeCodes, a_typeLengths, a_instanceFunctions, a_nodeKinds, a_nodeLefts, a_nodeRights, a_nodeSizes, a_equationLefts, a_equationRights, a_stackLefts, a_stackRights, a_words, a_boundWords, a_cellFirsts, a_cellSeconds, a_closureTokens, a_closureWords, a_written) (nI n) := by
  have h1 := (hg.2 n hn).2.2.2.2
  have h2 := lk_le a_nodeKinds N
  exact Exists.intro (ds n + 1) (x_root4 hN hg (ds n) n 0 _ hn rfl (by omega) (by omega) hp)
theorem n1_0 : ¬ (1 : Int32) = 0 := by decide
theorem x_hasRight {post : Int32 → Prop} {k : Int32} (h1 : gr_rg k → post 1) (h0 : ¬ gr_rg k → post 0) : wpX_hasRight post (f_saidPlace, f_instanceCount, f_nodeCount, f_equationCount, f_stackCount, f_wordCount, f_depth, f_cellCount, f_consCount, f_closureCount, f_stepCount, f_runAnswer, f_writtenCount, a_kinds, a_values, a_spans, a_bounds, a_binders, a_lengths, a_parameterCounts, a_typeCodes, a_typeLengths, a_instanceFunctions, a_nodeKinds, a_nodeLefts, a_nodeRights, a_nodeSizes, a_equationLefts, a_equationRights, a_stackLefts, a_stackRights, a_words, a_boundWords, a_cellFirsts, a_cellSeconds, a_closureTokens, a_closureWords, a_written) k :=
  br_c (fun h => h1 (Or.inl h)) (fun h => br_c (fun h' => h1 (Or.inr h')) (fun h' => h0 (fun z => z.elim h h')))
theorem x_hasLeft {post : Int32 → Prop} {k : Int32} (h1 : gr_lf k → post 1) (h0 : ¬ gr_lf k → post 0) : wpX_hasLeft post (f_saidPlace, f_instanceCount, f_nodeCount, f_equationCount, f_stackCount, f_wordCount, f_depth, f_cellCount, f_consCount, f_closureCount, f_stepCount, f_runAnswer, f_writtenCount, a_kinds, a_values, a_spans, a_bounds, a_binders, a_lengths, a_parameterCounts, a_typeCodes, a_typeLengths, a_instanceFunctions, a_nodeKinds, a_nodeLefts, a_nodeRights, a_nodeSizes, a_equationLefts, a_equationRights, a_stackLefts, a_stackRights, a_words, a_boundWords, a_cellFirsts, a_cellSeconds, a_closureTokens, a_closureWords, a_written) k :=
  br_c (fun h => h1 (Or.inl h)) (fun h => x_hasRight (fun hr => br_f n1_0 (h1 (Or.inr hr))) (fun hr => br_t rfl (h0 (fun z => z.elim h hr))))
theorem x_equate {post : SX → Prop} {p0 p1 : Int32} {e : Nat} (he : e < 1150)
    (h : post (f_saidPlace, f_instanceCount, f_nodeCount, (nI (e + 1)), f_stackCount, f_wordCount, f_depth, f_cellCount, f_consCount, f_closureCount, f_stepCount, f_runAnswer, f_writtenCount, a_kinds, a_values, a_spans, a_bounds, a_binders, a_lengths, a_parameterCounts, a_typeCodes, a_typeLengths, a_instanceFunctions, a_nodeKinds, a_nodeLefts, a_nodeRights, a_nodeSizes, (upd a_equationLefts e p0), (upd a_equationRights e p1), a_stackLefts, a_stackRights, a_words, a_boundWords, a_cellFirsts, a_cellSeconds, a_closureTokens, a_closureWords, a_written)) : wpX_equate post (f_saidPlace, f_instanceCount, f_nodeCount, (nI e), f_stackCount, f_wordCount, f_depth, f_cellCount, f_consCount, f_closureCount, f_stepCount, f_runAnswer, f_writtenCount, a_kinds, a_values, a_spans, a_bounds, a_binders, a_lengths, a_parameterCounts, a_typeCodes, a_typeLengths, a_instanceFunctions, a_nodeKinds, a_nodeLefts, a_nodeRights, a_nodeSizes, a_equationLefts, a_equationRights, a_stackLefts, a_stackRights, a_words, a_boundWords, a_cellFirsts, a_cellSeconds, a_closureTokens, a_closureWords, a_written) p0 p1 := by
  refine And.intro (pk_in e 1150 he) (nm_r (e' := upd a_equationLefts e p0) (by rw [nI_clamp (by omega)]) (And.intro (pk_in e 1150 he) (nm_r (e' := upd a_equationRights e p1) (by rw [nI_clamp (by omega)]) (nm_r (nI_1 e) h))))
theorem x_newNode {post : Int32 → SX → Prop} {p0 p1 p2 : Int32} {N : Nat} (hN : N < 1126)
    (h : post (nI N) (f_saidPlace, f_instanceCount, (nI (N + 1)), f_equationCount, f_stackCount, f_wordCount, f_depth, f_cellCount, f_consCount, f_closureCount, f_stepCount, f_runAnswer, f_writtenCount, a_kinds, a_values, a_spans, a_bounds, a_binders, a_lengths, a_parameterCounts, a_typeCodes, a_typeLengths, a_instanceFunctions, (upd a_nodeKinds N p0), (upd a_nodeLefts N p1), (upd a_nodeRights N p2), a_nodeSizes, a_equationLefts, a_equationRights, a_stackLefts, a_stackRights, a_words, a_boundWords, a_cellFirsts, a_cellSeconds, a_closureTokens, a_closureWords, a_written)) : wpX_newNode post (f_saidPlace, f_instanceCount, (nI N), f_equationCount, f_stackCount, f_wordCount, f_depth, f_cellCount, f_consCount, f_closureCount, f_stepCount, f_runAnswer, f_writtenCount, a_kinds, a_values, a_spans, a_bounds, a_binders, a_lengths, a_parameterCounts, a_typeCodes, a_typeLengths, a_instanceFunctions, a_nodeKinds, a_nodeLefts, a_nodeRights, a_nodeSizes, a_equationLefts, a_equationRights, a_stackLefts, a_stackRights, a_words, a_boundWords, a_cellFirsts, a_cellSeconds, a_closureTokens, a_closureWords, a_written) p0 p1 p2 := by
  refine And.intro (pk_in N 1126 hN) (nm_r (e' := upd a_nodeKinds N p0) (by rw [nI_clamp (by omega)]) (And.intro (pk_in N 1126 hN) (nm_r (e' := upd a_nodeLefts N p1) (by rw [nI_clamp (by omega)]) (And.intro (pk_in N 1126 hN) (nm_r (e' := upd a_nodeRights N p2) (by rw [nI_clamp (by omega)]) (nm_r (nI_1 N) ?_))))))
  rw [nI_pred]
  exact h
/-- the equations that wait -/
def eq_ok (N e : Nat) (el er : Nat → Int32) (EL ER : Nat → Nat) : Prop := ∀ i, i < e → el i = nI (EL i) ∧ EL i < N ∧ er i = nI (ER i) ∧ ER i < N
def eq_all (e : Nat) (EL ER : Nat → Nat) (r : Nat → mt_T) : Prop := ∀ i, i < e → r (EL i) = r (ER i)
theorem eq_up {N e : Nat} {el er : Nat → Int32} {EL ER : Nat → Nat} {a b : Nat} (h : eq_ok N e el er EL ER) (ha : a < N) (hb : b < N) :
    eq_ok N (e + 1) (upd el e (nI a)) (upd er e (nI b)) (updN EL e a) (updN ER e b) := by
  intro i hi
  by_cases z : i = e
  · subst z; rw [pk_us, pk_us, uN_s, uN_s]; exact ⟨rfl, ha, rfl, hb⟩
  · rw [pk_un z, pk_un z, uN_n z, uN_n z]; exact h i (by omega)
theorem eq_upa {e : Nat} {EL ER : Nat → Nat} {a b : Nat} {r : Nat → mt_T} : eq_all (e + 1) (updN EL e a) (updN ER e b) r ↔ eq_all e EL ER r ∧ r a = r b := by
  constructor
  · intro h
    refine ⟨fun i hi => ?_, ?_⟩
    · have := h i (by omega); rw [uN_n (by omega), uN_n (by omega)] at this; exact this
    · have := h e (by omega); rw [uN_s, uN_s] at this; exact this
  · rintro ⟨h, h'⟩ i hi
    by_cases z : i = e
    · subst z; rw [uN_s, uN_s]; exact h'
    · rw [uN_n z, uN_n z]; exact h i (by omega)
theorem eq_low {N e : Nat} {el er : Nat → Int32} {EL ER : Nat → Nat} (h : eq_ok N (e + 1) el er EL ER) : eq_ok N e el er EL ER := fun i hi => h i (by omega)
theorem eq_lowa {e : Nat} {EL ER : Nat → Nat} {r : Nat → mt_T} : eq_all (e + 1) EL ER r ↔ eq_all e EL ER r ∧ r (EL e) = r (ER e) := by
  constructor
  · intro h; exact ⟨fun i hi => h i (by omega), h e (by omega)⟩
  · rintro ⟨h, h'⟩ i hi
    by_cases z : i = e
    · subst z; exact h'
    · exact h i (by omega)
/-- a link from root a to root b -/
theorem xg_link {N : Nat} {K nl nr : Nat → Int32} {L R rt ds : Nat → Nat} {a b : Nat} (hg : xg_ok N K nl nr L R rt ds) (ha : a < N) (hb : b < N) (hab : a ≠ b) (ra : K a ≠ 5) (rb : K b ≠ 5) :
    ∃ rt' ds', xg_ok N (upd K a 5) (upd nl a (nI b)) nr (updN L a b) R rt' ds' ∧ lk_ct (upd K a 5) N = lk_ct K N + 1 := by
  have hl : lk_ct (upd K a 5) N = lk_ct K N + 1 := lk_up ra pk_us N ha (fun j _ hj => pk_un hj)
  refine ⟨fun n => if rt n = a then b else rt n, fun n => if rt n = a then ds n + 1 else ds n, ⟨fun n hn => ?_, ?_⟩, hl⟩
  · by_cases z : n = a
    · subst z
      rw [pk_us, pk_us, uN_s]
      refine ⟨Or.inr (Or.inr (Or.inr (Or.inr (Or.inr (Or.inl rfl))))), fun _ => ⟨rfl, hb⟩, fun h => ?_, fun h => absurd h (by decide)⟩
      rcases h with h | h <;> exact absurd h (by decide)
    · rw [pk_un z, pk_un z, uN_n z]; exact hg.1 n hn
  · rw [hl]
    exact fo_join hg.2 ha hb hab ra rb pk_us uN_s (fun j _ hj => pk_un hj) (fun j _ hj => uN_n hj)
theorem kd_cn {k : Int32} (h : gr_kd k) (h5 : k ≠ 5) (h10 : k ≠ 10) : gr_cn k := by
  rcases h with h | h | h | h | h | h | h
  · exact Or.inl h
  · exact Or.inr (Or.inl h)
  · exact Or.inr (Or.inr (Or.inl h))
  · exact Or.inr (Or.inr (Or.inr (Or.inl h)))
  · exact Or.inr (Or.inr (Or.inr (Or.inr h)))
  · exact absurd h h5
  · exact absurd h h10
theorem x_join {post : Int32 → SX → Prop} {N a b e : Nat} {L R rt ds EL ER : Nat → Nat} (hN : N ≤ 1126) (hg : xg_ok N a_nodeKinds a_nodeLefts a_nodeRights L R rt ds) (ha : a < N) (hb : b < N)
    (he : e + 2 ≤ 1150) (hq : eq_ok N e a_equationLefts a_equationRights EL ER) (ra : a_nodeKinds a ≠ 5) (rb : a_nodeKinds b ≠ 5)
    (h0 : gr_cn (a_nodeKinds a) → gr_cn (a_nodeKinds b) → a_nodeKinds a ≠ a_nodeKinds b → post 0 (f_saidPlace, f_instanceCount, f_nodeCount, (nI e), f_stackCount, f_wordCount, f_depth, f_cellCount, f_consCount, f_closureCount, f_stepCount, f_runAnswer, f_writtenCount, a_kinds, a_values, a_spans, a_bounds, a_binders, a_lengths, a_parameterCounts, a_typeCodes, a_typeLengths, a_instanceFunctions, a_nodeKinds, a_nodeLefts, a_nodeRights, a_nodeSizes, a_equationLefts, a_equationRights, a_stackLefts, a_stackRights, a_words, a_boundWords, a_cellFirsts, a_cellSeconds, a_closureTokens, a_closureWords, a_written))
    (h1 : a_nodeKinds a = 10 → post 1 (f_saidPlace, f_instanceCount, f_nodeCount, (nI e), f_stackCount, f_wordCount, f_depth, f_cellCount, f_consCount, f_closureCount, f_stepCount, f_runAnswer, f_writtenCount, a_kinds, a_values, a_spans, a_bounds, a_binders, a_lengths, a_parameterCounts, a_typeCodes, a_typeLengths, a_instanceFunctions, (upd a_nodeKinds a 5), (upd a_nodeLefts a (nI b)), a_nodeRights, a_nodeSizes, a_equationLefts, a_equationRights, a_stackLefts, a_stackRights, a_words, a_boundWords, a_cellFirsts, a_cellSeconds, a_closureTokens, a_closureWords, a_written))
    (h2 : a_nodeKinds b = 10 → post 1 (f_saidPlace, f_instanceCount, f_nodeCount, (nI e), f_stackCount, f_wordCount, f_depth, f_cellCount, f_consCount, f_closureCount, f_stepCount, f_runAnswer, f_writtenCount, a_kinds, a_values, a_spans, a_bounds, a_binders, a_lengths, a_parameterCounts, a_typeCodes, a_typeLengths, a_instanceFunctions, (upd a_nodeKinds b 5), (upd a_nodeLefts b (nI a)), a_nodeRights, a_nodeSizes, a_equationLefts, a_equationRights, a_stackLefts, a_stackRights, a_words, a_boundWords, a_cellFirsts, a_cellSeconds, a_closureTokens, a_closureWords, a_written))
    (h3 : gr_cn (a_nodeKinds a) → a_nodeKinds a = a_nodeKinds b → ∀ e' el er EL' ER', e' ≤ e + 2 → eq_ok N e' el er EL' ER' →
      (∀ r, eq_all e' EL' ER' r ↔ eq_all e EL ER r ∧ (gr_lf (a_nodeKinds a) → r (L a) = r (L b)) ∧ (gr_rg (a_nodeKinds a) → r (R a) = r (R b))) →
      post 1 (f_saidPlace, f_instanceCount, f_nodeCount, (nI e'), f_stackCount, f_wordCount, f_depth, f_cellCount, f_consCount, f_closureCount, f_stepCount, f_runAnswer, f_writtenCount, a_kinds, a_values, a_spans, a_bounds, a_binders, a_lengths, a_parameterCounts, a_typeCodes, a_typeLengths, a_instanceFunctions, (upd a_nodeKinds a 5), (upd a_nodeLefts a (nI b)), a_nodeRights, a_nodeSizes, el, er, a_stackLefts, a_stackRights, a_words, a_boundWords, a_cellFirsts, a_cellSeconds, a_closureTokens, a_closureWords, a_written)) :
    wpX_join post (f_saidPlace, f_instanceCount, f_nodeCount, (nI e), f_stackCount, f_wordCount, f_depth, f_cellCount, f_consCount, f_closureCount, f_stepCount, f_runAnswer, f_writtenCount, a_kinds, a_values, a_spans, a_bounds, a_binders, a_lengths, a_parameterCounts, a_typeCodes, a_typeLengths, a_instanceFunctions, a_nodeKinds, a_nodeLefts, a_nodeRights, a_nodeSizes, a_equationLefts, a_equationRights, a_stackLefts, a_stackRights, a_words, a_boundWords, a_cellFirsts, a_cellSeconds, a_closureTokens, a_closureWords, a_written) (nI a) (nI b) := by
  have ca : (nI a).toNatClampNeg = a := nI_clamp (by omega)
  have cb : (nI b).toNatClampNeg = b := nI_clamp (by omega)
  refine And.intro (pk_in a 1126 (by omega)) (nm_r (e' := a_nodeKinds a) (by rw [ca]) ?_)
  refine br_c (fun h => ?_) (fun h => And.intro (pk_in b 1126 (by omega)) ?_)
  · exact br_t h (And.intro (pk_in a 1126 (by omega)) (nm_r (e' := upd a_nodeKinds a 5) (by rw [ca]) (br_t h (And.intro (pk_in a 1126 (by omega)) (nm_r (e' := upd a_nodeLefts a (nI b)) (by rw [ca]) (h1 h))))))
  rw [cb]
  refine br_c (fun h' => ?_) (fun h' => And.intro (pk_in b 1126 (by omega)) ?_)
  · exact br_f h (And.intro (pk_in b 1126 (by omega)) (nm_r (e' := upd a_nodeKinds b 5) (by rw [cb]) (br_f h (And.intro (pk_in b 1126 (by omega)) (nm_r (e' := upd a_nodeLefts b (nI a)) (by rw [cb]) (h2 h'))))))
  have kca := kd_cn (hg.1 a ha).1 ra h
  have kcb := kd_cn (hg.1 b hb).1 rb h'
  refine br_c (fun hk => ?_) (fun hk => h0 kca kcb hk)
  rw [ca]
  have tail : ∀ e' el er EL' ER', e' ≤ e + 2 → eq_ok N e' el er EL' ER' →
      (∀ r, eq_all e' EL' ER' r ↔ eq_all e EL ER r ∧ (gr_lf (a_nodeKinds a) → r (L a) = r (L b)) ∧ (gr_rg (a_nodeKinds a) → r (R a) = r (R b))) →
      wX_join_125 post (nI a) (nI b) f_saidPlace f_instanceCount f_nodeCount (nI e') f_stackCount f_wordCount f_depth f_cellCount f_consCount f_closureCount f_stepCount f_runAnswer f_writtenCount a_kinds a_values a_spans a_bounds a_binders a_lengths a_parameterCounts a_typeCodes a_typeLengths a_instanceFunctions a_nodeKinds a_nodeLefts a_nodeRights a_nodeSizes el er a_stackLefts a_stackRights a_words a_boundWords a_cellFirsts a_cellSeconds a_closureTokens a_closureWords a_written := by
    intro e' el er EL' ER' he' hq' hr
    exact And.intro (pk_in a 1126 (by omega)) (nm_r (e' := upd a_nodeKinds a 5) (by rw [ca]) (And.intro (pk_in a 1126 (by omega)) (nm_r (e' := upd a_nodeLefts a (nI b)) (by rw [ca]) (h3 kca hk e' el er EL' ER' he' hq' hr))))
  refine x_hasLeft (fun hl => br_f n1_0 (And.intro (pk_in a 1126 (by omega)) (And.intro (pk_in b 1126 (by omega)) ?_))) (fun hl => br_t rfl ?_)
  · obtain ⟨la, lb⟩ := (hg.1 a ha).2.1 (Or.inr hl)
    obtain ⟨la', lb'⟩ := (hg.1 b hb).2.1 (Or.inr (hk ▸ hl))
    rw [la, la']
    refine x_equate (by omega) ?_
    refine x_hasRight (fun hr => br_f n1_0 (And.intro (pk_in a 1126 (by omega)) (And.intro (pk_in b 1126 (by omega)) ?_))) (fun hr => br_t rfl ?_)
    · obtain ⟨qa, qb⟩ := (hg.1 a ha).2.2.1 hr
      obtain ⟨qa', qb'⟩ := (hg.1 b hb).2.2.1 (hk ▸ hr)
      rw [ca, cb, qa, qa']
      refine x_equate (by omega) ?_
      refine tail _ _ _ _ _ (by omega) (eq_up (eq_up hq lb lb') qb qb') (fun r => ?_)
      rw [eq_upa, eq_upa]
      exact ⟨fun ⟨⟨p, q⟩, s⟩ => ⟨p, fun _ => q, fun _ => s⟩, fun ⟨p, q, s⟩ => ⟨⟨p, q hl⟩, s hr⟩⟩
    · refine tail _ _ _ _ _ (by omega) (eq_up hq lb lb') (fun r => ?_)
      rw [eq_upa]
      exact ⟨fun ⟨p, q⟩ => ⟨p, fun _ => q, fun z => absurd z hr⟩, fun ⟨p, q, _⟩ => ⟨p, q hl⟩⟩
  · refine x_hasRight (fun hr => absurd (Or.inr hr) hl) (fun hr => br_t rfl ?_)
    exact tail _ _ _ _ _ (by omega) hq (fun r => ⟨fun p => ⟨p, fun z => absurd z hl, fun z => absurd z hr⟩, fun p => p.1⟩)

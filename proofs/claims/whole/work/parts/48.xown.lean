variable {f_saidPlace f_instanceCount f_nodeCount f_equationCount f_stackCount f_wordCount f_depth f_cellCount f_consCount f_closureCount f_stepCount f_runAnswer f_writtenCount : Int32} {a_kinds a_values a_spans a_bounds a_binders a_lengths a_parameterCounts a_typeCodes a_typeLengths a_instanceFunctions a_nodeKinds a_nodeLefts a_nodeRights a_nodeSizes a_equationLefts a_equationRights a_stackLefts a_stackRights a_words a_boundWords a_cellFirsts a_cellSeconds a_closureTokens a_closureWords a_written : Nat → Int32}
theorem lt0_n {t : Nat} (h : t < 2 ^ 31) : ¬ nI t < 0 := by
  have := nI_ltI (a := t) (b := 0) h (by omega)
  rw [show (0 : Int32) = nI 0 from rfl, this]; omega
theorem wr_len (cl : Bool) (vs cs : List Nat) : (wr_f cl vs cs).length = cs.length := by
  unfold wr_f
  cases cl
  · rw [if_neg (by decide), cn_go_map, List.length_map]
  · rw [if_pos rfl, cl_0, List.length_map]
theorem wr_lt {cl : Bool} {cs : List Nat} (h : cs.length ≤ 42) : ∀ k, k < (wr_f cl [] cs).length → (wr_f cl [] cs).getD k 0 < 60 := by
  intro k hk
  have hm := gd_mem _ k hk
  revert hm
  unfold wr_f
  cases cl
  · rw [if_neg (by decide)]
    intro hm
    have := cn_bd cs [] _ hm
    simp only [List.length_nil] at this
    omega
  · rw [if_pos rfl]
    intro hm
    obtain ⟨c, _, e⟩ := List.mem_map.mp hm
    rw [← e]
    unfold mt_rn
    by_cases y : c < 10
    · rw [if_pos y]; omega
    · rw [if_neg y]; exact (by decide : (0 : Nat) < 60)
theorem yw_x {N : Nat} {K nl nr : Nat → Int32} {L R rt ds : Nat → Nat} {c : Nat → mt_T} (hg : xg_ok N K nl nr L R rt ds) (hm : mg_is N (gr_sat N K L R) c) (hv : ∀ n, n < N → K n = 10 → c n = .leaf (10 + n)) :
    (∀ n, n < N → c n = c (rt n)) ∧ (∀ n, n < N → K n ≠ 5 → (K n = 10 → c n = .leaf (10 + n)) ∧ (K n ≠ 10 → c n = gr_at K L R c n)) :=
  ⟨fun n hn => fo_eq hg.2 (mg_self hm) (ds n) n hn rfl, fun n hn _ => ⟨hv n hn, fun _ => mg_self hm n hn⟩⟩
/-- a row is written from the nodes of a stack -/
theorem x_writeRow {post : SX → Prop} {row N h : Nat} {cl : Bool} {x2 : Int32} {L R rt ds : Nat → Nat} {c : Nat → mt_T} {st : List Nat} (hrow : row < 18) (hN : N ≤ 1126) (hx2 : x2 = if cl then 1 else 0)
    (hg : xg_ok N a_nodeKinds a_nodeLefts a_nodeRights L R rt ds) (hm : mg_is N (gr_sat N a_nodeKinds L R) c) (hv : ∀ n, n < N → a_nodeKinds n = 10 → c n = .leaf (10 + n)) (hst : sk_ok N h a_stackLefts st) (hl : (mt_encs (st.map c)).length ≤ 42)
    (hP : ∀ nl sl sr tc, (cl = true → nl = a_nodeLefts) → (∀ j, j < row * 42 ∨ row * 42 + 42 ≤ j → tc j = a_typeCodes j) → (∀ i, i < (mt_encs (st.map c)).length → tc (row * 42 + i) = nI ((wr_f cl [] (mt_encs (st.map c))).getD i 0)) →
      post (f_saidPlace, f_instanceCount, f_nodeCount, f_equationCount, (nI 0), f_wordCount, f_depth, f_cellCount, f_consCount, f_closureCount, f_stepCount, f_runAnswer, f_writtenCount, a_kinds, a_values, a_spans, a_bounds, a_binders, a_lengths, a_parameterCounts, tc, (upd a_typeLengths row (nI (mt_encs (st.map c)).length)), a_instanceFunctions, a_nodeKinds, nl, a_nodeRights, a_nodeSizes, a_equationLefts, a_equationRights, sl, sr, a_words, a_boundWords, a_cellFirsts, a_cellSeconds, a_closureTokens, a_closureWords, a_written)) : wpX_writeRow post (f_saidPlace, f_instanceCount, f_nodeCount, f_equationCount, (nI h), f_wordCount, f_depth, f_cellCount, f_consCount, f_closureCount, f_stepCount, f_runAnswer, f_writtenCount, a_kinds, a_values, a_spans, a_bounds, a_binders, a_lengths, a_parameterCounts, a_typeCodes, a_typeLengths, a_instanceFunctions, a_nodeKinds, a_nodeLefts, a_nodeRights, a_nodeSizes, a_equationLefts, a_equationRights, a_stackLefts, a_stackRights, a_words, a_boundWords, a_cellFirsts, a_cellSeconds, a_closureTokens, a_closureWords, a_written) (nI row) x2 := by
  have hlen := wr_len cl [] (mt_encs (st.map c))
  have hw := yw_x hg hm hv
  refine Exists.intro ((mt_encs (st.map c)).length + 1) ?_
  have key := x_wr8 (post := post) (row := row) (cl := cl) (x2 := x2) (c := c) (OUT := wr_f cl [] (mt_encs (st.map c))) (D := lk_ct a_nodeKinds N) hrow hN (by have := lk_le a_nodeKinds N; omega) hx2 (by rw [hlen]; exact hl) (fun k hk => Nat.lt_of_lt_of_le (wr_lt hl k hk) (by omega)) hw.1 hw.2 (fun nl sl sr tc q0 q1 q2 => by rw [hlen] at q2 ⊢; exact hP nl sl sr tc q0 q1 q2) _ ((mt_encs (st.map c)).length + 1) 0 h st [] a_nodeLefts a_stackLefts a_stackRights a_typeCodes (Nat.le_refl _) (by omega) rfl (by omega) hst (xw_of hg) ⟨fun _ n hn hk => ⟨fun z => absurd z (by simp), fun _ => (hg.1 n hn).2.2.2 hk⟩, fun _ => rfl⟩ (by simp) (fun _ _ => rfl) (fun i hi => by omega)
  exact key
/-- the parameters' types, then the body's -/
def ow_st (P : Nat) : List Nat := (List.range P).map (fun j => 72 + j) ++ [0]
theorem ow_lt {P : Nat} (hP : P ≤ 2) : ∀ n ∈ ow_st P, n < 74 := by
  intro n hn
  unfold ow_st at hn
  rw [List.mem_append, List.mem_map] at hn
  rcases hn with ⟨j, h, rfl⟩ | h
  · have := List.mem_range.mp h; omega
  · simp at h; omega
theorem ow_len (P : Nat) : (ow_st P).length = P + 1 := by simp [ow_st]
/-- the stack while the parameters are pushed, from the last on -/
def ow_s (P : Nat) : Nat → List Nat
  | 0 => [0]
  | q + 1 => (72 + (P - (q + 1))) :: ow_s P q
theorem ow_s_len (P : Nat) : ∀ q, (ow_s P q).length = q + 1 := by
  intro q
  induction q with
  | zero => rfl
  | succ q ih => simp only [ow_s, List.length_cons, ih]
theorem ow_s2 {P : Nat} (h : P ≤ 2) : ow_s P P = ow_st P := by
  have : P = 0 ∨ P = 1 ∨ P = 2 := by omega
  rcases this with rfl | rfl | rfl <;> rfl
theorem x_wo20 {post : SX → Prop} {f N P : Nat} {L R rt ds : Nat → Nat} {c : Nat → mt_T} (hf : f < 5) (h76 : 76 ≤ N) (hN : N ≤ 1126) (hP2 : P ≤ 2)
    (hg : xg_ok N a_nodeKinds a_nodeLefts a_nodeRights L R rt ds) (hm : mg_is N (gr_sat N a_nodeKinds L R) c) (hv : ∀ n, n < N → a_nodeKinds n = 10 → c n = .leaf (10 + n)) (hl : (mt_encs ((ow_st P).map c)).length ≤ 42)
    (hP : ∀ nl sl sr tc, (∀ j, j < f * 42 ∨ f * 42 + 42 ≤ j → tc j = a_typeCodes j) → (∀ i, i < (mt_encs ((ow_st P).map c)).length → tc (f * 42 + i) = nI ((cn_go [] (mt_encs ((ow_st P).map c))).getD i 0)) →
      post (f_saidPlace, f_instanceCount, f_nodeCount, f_equationCount, (nI 0), f_wordCount, f_depth, f_cellCount, f_consCount, f_closureCount, f_stepCount, f_runAnswer, f_writtenCount, a_kinds, a_values, a_spans, a_bounds, a_binders, a_lengths, a_parameterCounts, tc, (upd a_typeLengths f (nI (mt_encs ((ow_st P).map c)).length)), a_instanceFunctions, a_nodeKinds, nl, a_nodeRights, a_nodeSizes, a_equationLefts, a_equationRights, sl, sr, a_words, a_boundWords, a_cellFirsts, a_cellSeconds, a_closureTokens, a_closureWords, a_written)) :
    ∀ p fu q (sl sr : Nat → Int32), p + q = P → p < fu → sk_ok N (q + 1) sl (ow_s P q) → wX_writeOwnType_20 post (nI f) fu (nI p + (-1)) f_saidPlace f_instanceCount f_nodeCount f_equationCount (nI (q + 1)) f_wordCount f_depth f_cellCount f_consCount f_closureCount f_stepCount f_runAnswer f_writtenCount a_kinds a_values a_spans a_bounds a_binders a_lengths a_parameterCounts a_typeCodes a_typeLengths a_instanceFunctions a_nodeKinds a_nodeLefts a_nodeRights a_nodeSizes a_equationLefts a_equationRights sl sr a_words a_boundWords a_cellFirsts a_cellSeconds a_closureTokens a_closureWords a_written := by
  intro p
  induction p with
  | zero =>
    intro fu q sl sr hq hfu hs
    obtain ⟨fu, rfl⟩ : ∃ g, fu = g + 1 := ⟨fu - 1, by omega⟩
    have e : q = P := by omega
    subst e
    rw [ow_s2 hP2] at hs
    refine br_t (by decide) (x_writeRow (cl := false) (c := c) (st := ow_st q) (by omega) hN rfl hg hm hv hs hl (fun nl sl' sr' tc _ q1 q2 => hP nl sl' sr' tc q1 q2))
  | succ p ih =>
    intro fu q sl sr hq hfu hs
    obtain ⟨fu, rfl⟩ : ∃ g, fu = g + 1 := ⟨fu - 1, by omega⟩
    rw [pk_m1]
    refine br_f (lt0_n (by omega)) ?_
    rw [ix_72]
    refine x_push (by omega) (nm_e ?_)
    have e : 72 + p = 72 + (P - (q + 1)) := by omega
    exact ih fu (q + 1) _ _ (by omega) (by omega) (by rw [e]; exact sk_push hs (by omega))
theorem x_writeOwnType {post : SX → Prop} {f N P : Nat} {L R rt ds : Nat → Nat} {c : Nat → mt_T} (hf : f < 5) (h76 : 76 ≤ N) (hN : N ≤ 1126) (hP2 : P ≤ 2) (hpc : a_parameterCounts f = nI P)
    (hg : xg_ok N a_nodeKinds a_nodeLefts a_nodeRights L R rt ds) (hm : mg_is N (gr_sat N a_nodeKinds L R) c) (hv : ∀ n, n < N → a_nodeKinds n = 10 → c n = .leaf (10 + n)) (hl : (mt_encs ((ow_st P).map c)).length ≤ 42)
    (hP : ∀ nl sl sr tc, (∀ j, j < f * 42 ∨ f * 42 + 42 ≤ j → tc j = a_typeCodes j) → (∀ i, i < (mt_encs ((ow_st P).map c)).length → tc (f * 42 + i) = nI ((cn_go [] (mt_encs ((ow_st P).map c))).getD i 0)) →
      post (f_saidPlace, f_instanceCount, f_nodeCount, f_equationCount, (nI 0), f_wordCount, f_depth, f_cellCount, f_consCount, f_closureCount, f_stepCount, f_runAnswer, f_writtenCount, a_kinds, a_values, a_spans, a_bounds, a_binders, a_lengths, a_parameterCounts, tc, (upd a_typeLengths f (nI (mt_encs ((ow_st P).map c)).length)), a_instanceFunctions, a_nodeKinds, nl, a_nodeRights, a_nodeSizes, a_equationLefts, a_equationRights, sl, sr, a_words, a_boundWords, a_cellFirsts, a_cellSeconds, a_closureTokens, a_closureWords, a_written)) :
    wpX_writeOwnType post (f_saidPlace, f_instanceCount, f_nodeCount, f_equationCount, f_stackCount, f_wordCount, f_depth, f_cellCount, f_consCount, f_closureCount, f_stepCount, f_runAnswer, f_writtenCount, a_kinds, a_values, a_spans, a_bounds, a_binders, a_lengths, a_parameterCounts, a_typeCodes, a_typeLengths, a_instanceFunctions, a_nodeKinds, a_nodeLefts, a_nodeRights, a_nodeSizes, a_equationLefts, a_equationRights, a_stackLefts, a_stackRights, a_words, a_boundWords, a_cellFirsts, a_cellSeconds, a_closureTokens, a_closureWords, a_written) (nI f) := by
  unfold wpX_writeOwnType
  refine x_push (h := 0) (by omega) ?_
  refine And.intro (pk_in f 11 (by omega)) ?_
  rw [nI_clamp (n := f) (by omega), hpc]
  refine nm_r (e' := nI P + (-1)) (Int32.sub_eq_add_neg _ _) (Exists.intro (P + 1) ?_)
  refine x_wo20 hf h76 hN hP2 hg hm hv hl hP P (P + 1) 0 _ _ (by omega) (by omega) ⟨rfl, fun n hn => ?_, fun i hi => ?_⟩
  · simp [ow_s] at hn; omega
  · have : i = 0 := by omega
    subst this; rw [pk_us]; rfl

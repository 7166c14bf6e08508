variable {f_saidPlace f_instanceCount f_nodeCount f_equationCount f_stackCount f_wordCount f_depth f_cellCount f_consCount f_closureCount f_stepCount f_runAnswer f_writtenCount : Int32} {a_kinds a_values a_spans a_bounds a_binders a_lengths a_parameterCounts a_typeCodes a_typeLengths a_instanceFunctions a_nodeKinds a_nodeLefts a_nodeRights a_nodeSizes a_equationLefts a_equationRights a_stackLefts a_stackRights a_words a_boundWords a_cellFirsts a_cellSeconds a_closureTokens a_closureWords a_written : Nat → Int32}
theorem x_clear2 {post : SX → Prop} (hP : ∀ K' nl', (∀ n, n < 74 → K' n = 10) → K' 74 = 0 → K' 75 = 1 → (∀ n, n < 76 → nl' n = -1) → post (f_saidPlace, f_instanceCount, (nI 76), (nI 0), f_stackCount, f_wordCount, f_depth, f_cellCount, f_consCount, f_closureCount, f_stepCount, f_runAnswer, f_writtenCount, a_kinds, a_values, a_spans, a_bounds, a_binders, a_lengths, a_parameterCounts, a_typeCodes, a_typeLengths, a_instanceFunctions, K', nl', a_nodeRights, a_nodeSizes, a_equationLefts, a_equationRights, a_stackLefts, a_stackRights, a_words, a_boundWords, a_cellFirsts, a_cellSeconds, a_closureTokens, a_closureWords, a_written)) :
    ∀ f i K nl, i ≤ 76 → 76 < f + i → (∀ n, n < i → K n = 10 ∧ nl n = -1) → wX_clearNodes_2 post f_saidPlace f_instanceCount f_nodeCount f_equationCount f_stackCount f_wordCount f_depth f_cellCount f_consCount f_closureCount f_stepCount f_runAnswer f_writtenCount f (nI i) a_kinds a_values a_spans a_bounds a_binders a_lengths a_parameterCounts a_typeCodes a_typeLengths a_instanceFunctions K nl a_nodeRights a_nodeSizes a_equationLefts a_equationRights a_stackLefts a_stackRights a_words a_boundWords a_cellFirsts a_cellSeconds a_closureTokens a_closureWords a_written := by
  intro f
  induction f with
  | zero => intro i K nl h1 h2; omega
  | succ f ih =>
    intro i K nl h1 h2 hz
    refine pk_le 76 i (fun h => nm_e (nm_e (hP _ _ (fun n hn => ?_) ?_ ?_ (fun n hn => (hz n (by omega)).2)))) (fun h => And.intro (pk_in i 1126 (by omega)) (nm_r (e' := upd K i 10) (by rw [nI_clamp (by omega)]) (And.intro (pk_in i 1126 (by omega)) (nm_r (e' := upd nl i (-1)) (by rw [nI_clamp (by omega)]) (nm_r (nI_1 i) (ih (i + 1) _ _ (by omega) (by omega) (fun n hn => ?_)))))))
    · rw [pk_un (by omega), pk_un (by omega)]; exact (hz n (by omega)).1
    · rw [pk_un (by omega), pk_us]
    · rw [pk_us]
    · by_cases z : n = i
      · subst z; exact ⟨pk_us, pk_us⟩
      · rw [pk_un z, pk_un z]; exact hz n (by omega)
theorem xg_init {K nl nr : Nat → Int32} (h1 : ∀ n, n < 74 → K n = 10) (h2 : K 74 = 0) (h3 : K 75 = 1) (h4 : ∀ n, n < 76 → nl n = -1) :
    xg_ok 76 K nl nr (fun _ => 0) (fun _ => 0) (fun n => n) (fun _ => 0) ∧ (∀ r, gr_sat 76 K (fun _ => 0) (fun _ => 0) r ↔ r 74 = .leaf 0 ∧ r 75 = .leaf 1) := by
  have hk : ∀ n, n < 76 → K n = 10 ∨ K n = 0 ∨ K n = 1 := by
    intro n hn
    rcases Nat.lt_or_ge n 74 with z | z
    · exact Or.inl (h1 n z)
    · by_cases e : n = 74
      · rw [e]; exact Or.inr (Or.inl h2)
      · have : n = 75 := by omega
        rw [this]; exact Or.inr (Or.inr h3)
  refine ⟨⟨fun n hn => ?_, fun n hn => ?_⟩, fun r => ⟨fun h => ?_, fun h n hn => ?_⟩⟩
  · rcases hk n hn with z | z | z
    · rw [z]; exact ⟨kd_10, fun q => q.elim (fun q => absurd q (by decide)) (fun q => absurd q nlf10), fun q => absurd q nrg10, fun _ => h4 n hn⟩
    · rw [z]; exact ⟨Or.inl rfl, fun q => q.elim (fun q => absurd q (by decide)) (fun q => absurd q (by unfold gr_lf; decide)), fun q => absurd q (by unfold gr_rg; decide), fun q => absurd q (by decide)⟩
    · rw [z]; exact ⟨Or.inr (Or.inl rfl), fun q => q.elim (fun q => absurd q (by decide)) (fun q => absurd q (by unfold gr_lf; decide)), fun q => absurd q (by unfold gr_rg; decide), fun q => absurd q (by decide)⟩
  · have h5 : K n ≠ 5 := by rcases hk n hn with z | z | z <;> (rw [z]; decide)
    exact ⟨hn, h5, fun _ => ⟨rfl, rfl⟩, fun q => absurd q h5, Nat.zero_le _⟩
  · have a := h 74 (by omega)
    have b := h 75 (by omega)
    rw [gr_at_0 h2] at a
    rw [gr_at_1 h3] at b
    exact ⟨a, b⟩
  · rcases Nat.lt_or_ge n 74 with z | z
    · rw [gr_at_v (h1 n z)]
    · by_cases e : n = 74
      · rw [e, gr_at_0 h2]; exact h.1
      · have : n = 75 := by omega
        rw [this, gr_at_1 h3]; exact h.2
theorem pj_init {A : (Nat → mt_T) → Prop} (h : ∀ r, A r ↔ r 74 = .leaf 0 ∧ r 75 = .leaf 1) : pj_is 74 A (fun _ => True) := by
  refine ⟨fun r _ _ => trivial, fun r hw _ => ⟨gr_put (gr_put r 74 (.leaf 0)) 75 (.leaf 1), pt_wf (pt_wf hw mt_wf0) mt_wf1, (h _).mpr ⟨?_, gr_put_eq⟩, fun n hn => ?_⟩⟩
  · rw [gr_put_ne (by omega), gr_put_eq]
  · rw [gr_put_ne (by omega), gr_put_ne (by omega)]
/-- what firstIllTyped asks for behind it -/
def xi_s (post : Int32 → SX → Prop) (f_saidPlace f_instanceCount f_nodeCount f_equationCount f_stackCount f_wordCount f_depth f_cellCount f_consCount f_closureCount f_stepCount f_runAnswer f_writtenCount : Int32) (a_kinds a_values a_spans a_bounds a_binders a_lengths a_parameterCounts a_typeCodes a_typeLengths a_instanceFunctions a_nodeKinds a_nodeLefts a_nodeRights a_nodeSizes a_equationLefts a_equationRights a_stackLefts a_stackRights a_words a_boundWords a_cellFirsts a_cellSeconds a_closureTokens a_closureWords a_written : Nat → Int32) (S : (Nat → mt_T) → Prop) : Prop :=
  ∀ N K nl nr sz el er L R rt ds c, 76 ≤ N → N ≤ 780 → xg_ok N K nl nr L R rt ds → mg_is N (gr_sat N K L R) c → (∀ n, n < N → K n = 10 → c n = .leaf (10 + n)) → (∀ n, n < N → sz n = nI (cp (mt_enc (c n)).length)) →
    pj_is 74 (gr_sat N K L R) S → (∀ r, (∀ n, mt_wf (r n)) → gr_sat N K L R r → r 74 = .leaf 0 ∧ r 75 = .leaf 1) → post (-1) (f_saidPlace, f_instanceCount, (nI N), (nI 0), f_stackCount, f_wordCount, f_depth, f_cellCount, f_consCount, f_closureCount, f_stepCount, f_runAnswer, f_writtenCount, a_kinds, a_values, a_spans, a_bounds, a_binders, a_lengths, a_parameterCounts, a_typeCodes, a_typeLengths, a_instanceFunctions, K, nl, nr, sz, el, er, a_stackLefts, a_stackRights, a_words, a_boundWords, a_cellFirsts, a_cellSeconds, a_closureTokens, a_closureWords, a_written)
theorem x_ill {post : Int32 → SX → Prop} {f n : Nat} {kN : Nat → Nat} {vl : Nat → Int32} {oc sp bd bi : Nat → Nat} {cod : Nat → List Nat} (hf : f < 5) (hn : 0 < n) (hl : a_lengths f = nI n)
    (hb : xb_ok f n a_kinds a_values a_spans a_bounds a_binders a_lengths a_parameterCounts kN vl oc sp bd bi) (hfn : fn_ok f n a_typeCodes a_typeLengths kN vl oc cod)
    (hPs : xi_s post f_saidPlace f_instanceCount f_nodeCount f_equationCount f_stackCount f_wordCount f_depth f_cellCount f_consCount f_closureCount f_stepCount f_runAnswer f_writtenCount a_kinds a_values a_spans a_bounds a_binders a_lengths a_parameterCounts a_typeCodes a_typeLengths a_instanceFunctions a_nodeKinds a_nodeLefts a_nodeRights a_nodeSizes a_equationLefts a_equationRights a_stackLefts a_stackRights a_words a_boundWords a_cellFirsts a_cellSeconds a_closureTokens a_closureWords a_written (S_t (fun _ => True) f kN vl oc sp bd bi cod n))
    (hPf : ∀ t N K nl nr sz el er, t < n → (t = 0 ∨ ∃ r, (∀ n, mt_wf (r n)) ∧ S_t (fun _ => True) f kN vl oc sp bd bi cod t r) → (∀ r, (∀ n, mt_wf (r n)) → ¬ S_t (fun _ => True) f kN vl oc sp bd bi cod (t + 1) r) →
      post (nI t) (f_saidPlace, f_instanceCount, (nI N), (nI 0), f_stackCount, f_wordCount, f_depth, f_cellCount, f_consCount, f_closureCount, f_stepCount, f_runAnswer, f_writtenCount, a_kinds, a_values, a_spans, a_bounds, a_binders, a_lengths, a_parameterCounts, a_typeCodes, a_typeLengths, a_instanceFunctions, K, nl, nr, sz, el, er, a_stackLefts, a_stackRights, a_words, a_boundWords, a_cellFirsts, a_cellSeconds, a_closureTokens, a_closureWords, a_written)) :
    wpX_firstIllTyped post (f_saidPlace, f_instanceCount, f_nodeCount, f_equationCount, f_stackCount, f_wordCount, f_depth, f_cellCount, f_consCount, f_closureCount, f_stepCount, f_runAnswer, f_writtenCount, a_kinds, a_values, a_spans, a_bounds, a_binders, a_lengths, a_parameterCounts, a_typeCodes, a_typeLengths, a_instanceFunctions, a_nodeKinds, a_nodeLefts, a_nodeRights, a_nodeSizes, a_equationLefts, a_equationRights, a_stackLefts, a_stackRights, a_words, a_boundWords, a_cellFirsts, a_cellSeconds, a_closureTokens, a_closureWords, a_written) (nI f) (-1) := by
  refine Exists.intro 77 (x_clear2 (fun K' nl' k1 k2 k3 k4 => ?_) 77 0 _ _ (by omega) (by omega) (fun n hn => by omega))
  obtain ⟨g, hs⟩ := xg_init (nr := a_nodeRights) k1 k2 k3 k4
  refine br_t rfl (Exists.intro (n + 1) ?_)
  refine x_fit17 (S0 := fun _ => True) hf hn hl hb hfn (fun N K nl nr sz el er L R rt ds c => hPs N K nl nr sz el er L R rt ds c) hPf n 0 (n + 1) 76 0 K' nl' _ _ _ _ _ _ _ _ (fun _ => 0) (fun _ => 0) (by omega) (by omega) (by omega) (by omega) (by omega) q0_ok g (fun r _ h => (hs r).mp (A0_0.mp h)) ?_ (Or.inl rfl)
  have := pj_init (A := A0 76 0 K' (fun _ => 0) (fun _ => 0) (fun _ => 0) (fun _ => 0)) (fun r => A0_0.trans (hs r))
  exact ⟨fun r hw h => ⟨trivial, fun s hs => by omega⟩, fun r hw _ => this.2 r hw trivial⟩
theorem x_illi {post : Int32 → SX → Prop} {f n row P : Nat} {kN : Nat → Nat} {vl : Nat → Int32} {oc sp bd bi : Nat → Nat} {cod : Nat → List Nat} {Lc : List Nat} {ts : List mt_T} (hf : f < 5) (hn : 0 < n) (hl : a_lengths f = nI n)
    (hb : xb_ok f n a_kinds a_values a_spans a_bounds a_binders a_lengths a_parameterCounts kN vl oc sp bd bi) (hfn : fn_ok f n a_typeCodes a_typeLengths kN vl oc cod)
    (hP2 : P ≤ 2) (hpc : a_parameterCounts f = nI P) (hr : rw_ok row a_typeCodes a_typeLengths Lc) (hw : ∀ t ∈ ts, mt_wf t) (hL : mt_encs ts = Lc) (hlen : ts.length = P + 1)
    (hPs : xi_s post f_saidPlace f_instanceCount f_nodeCount f_equationCount f_stackCount f_wordCount f_depth f_cellCount f_consCount f_closureCount f_stepCount f_runAnswer f_writtenCount a_kinds a_values a_spans a_bounds a_binders a_lengths a_parameterCounts a_typeCodes a_typeLengths a_instanceFunctions a_nodeKinds a_nodeLefts a_nodeRights a_nodeSizes a_equationLefts a_equationRights a_stackLefts a_stackRights a_words a_boundWords a_cellFirsts a_cellSeconds a_closureTokens a_closureWords a_written (S_t (fun r => sc_inst Lc ((List.range P).map (fun j => r (72 + j)) ++ [r 0])) f kN vl oc sp bd bi cod n))
    (hsol : ∃ r, (∀ n, mt_wf (r n)) ∧ S_t (fun r => sc_inst Lc ((List.range P).map (fun j => r (72 + j)) ++ [r 0])) f kN vl oc sp bd bi cod n r) :
    wpX_firstIllTyped post (f_saidPlace, f_instanceCount, f_nodeCount, f_equationCount, f_stackCount, f_wordCount, f_depth, f_cellCount, f_consCount, f_closureCount, f_stepCount, f_runAnswer, f_writtenCount, a_kinds, a_values, a_spans, a_bounds, a_binders, a_lengths, a_parameterCounts, a_typeCodes, a_typeLengths, a_instanceFunctions, a_nodeKinds, a_nodeLefts, a_nodeRights, a_nodeSizes, a_equationLefts, a_equationRights, a_stackLefts, a_stackRights, a_words, a_boundWords, a_cellFirsts, a_cellSeconds, a_closureTokens, a_closureWords, a_written) (nI f) (nI row) := by
  have hrow := hr.1
  have hlc := hr.2.1
  refine Exists.intro 77 (x_clear2 (fun K' nl' k1 k2 k3 k4 => ?_) 77 0 _ _ (by omega) (by omega) (fun n hn => by omega))
  obtain ⟨g, hs⟩ := xg_init (nr := a_nodeRights) k1 k2 k3 k4
  refine br_f (ni_ne1 (by omega)) (x_stateInstance (M := 118) (Lc := Lc) (ts := ts) (by omega) (by omega) (by omega) (by omega) hP2 hpc hr hw hL hlen g (fun N' e' K1 nl1 nr1 sz1 el1 er1 L1 R1 rt1 ds1 EL1 ER1 hNN hNM he' hg1 hq1 hst => Exists.intro (n + 1) ?_))
  refine x_fit17 (S0 := fun r => sc_inst Lc ((List.range P).map (fun j => r (72 + j)) ++ [r 0])) hf hn hl hb hfn (fun N K nl nr sz el er L R rt ds c => hPs N K nl nr sz el er L R rt ds c) (fun t N K nl nr sz el er ht _ hno => ?_) n 0 (n + 1) N' e' K1 nl1 nr1 sz1 el1 er1 L1 R1 rt1 ds1 EL1 ER1 (by omega) (by omega) (by omega) (by show N' ≤ 118 + 14 * (0 + 0); omega) (by omega) hq1 hg1 (fun r hw h => ?_) ?_ (Or.inl rfl)
  · obtain ⟨r, hrw, hS⟩ := hsol
    exact absurd ⟨hS.1, fun s hs => hS.2 s (by omega)⟩ (hno r hrw)
  · exact (hs r).mp (hst.1 r hw h.1 h.2).1.1
  · have h0 := pj_init (A := A0 76 0 K' (fun _ => 0) (fun _ => 0) (fun _ => 0) (fun _ => 0)) (fun r => A0_0.trans (hs r))
    have h1 := pj_step (by omega) h0 hst (fun r r' e h => by
      have e1 : (List.range P).map (fun j => r' (72 + j)) = (List.range P).map (fun j => r (72 + j)) := List.map_congr_left (fun j hj => e _ (by have := List.mem_range.mp hj; omega))
      rw [e1, e 0 (by omega)]; exact h)
    exact ⟨fun r hw h => ⟨(h1.1 r hw h).2, fun s hs => by omega⟩, fun r hw h => h1.2 r hw ⟨trivial, h.1⟩⟩
theorem x_large4 {post : Int32 → Prop} {N : Nat} {c : Nat → mt_T} (hN : 76 ≤ N) (hs : ∀ n, n < N → a_nodeSizes n = nI (cp (mt_enc (c n)).length)) (h1 : (∃ n, n < 76 ∧ 14 < (mt_enc (c n)).length) → post 1) (h0 : (∀ n, n < 76 → (mt_enc (c n)).length ≤ 14) → post 0) :
    ∀ f i (x : Int32), i ≤ 76 → 76 < f + i → (x = 0 ∧ (∀ n, n < i → (mt_enc (c n)).length ≤ 14) ∨ x = 1 ∧ ∃ n, n < 76 ∧ 14 < (mt_enc (c n)).length) → wX_hasLargeType_4 post f_saidPlace f_instanceCount f_nodeCount f_equationCount f_stackCount f_wordCount f_depth f_cellCount f_consCount f_closureCount f_stepCount f_runAnswer f_writtenCount a_kinds a_values a_spans a_bounds a_binders a_lengths a_parameterCounts a_typeCodes a_typeLengths a_instanceFunctions a_nodeKinds a_nodeLefts a_nodeRights a_nodeSizes a_equationLefts a_equationRights a_stackLefts a_stackRights a_words a_boundWords a_cellFirsts a_cellSeconds a_closureTokens a_closureWords a_written f x (nI i) := by
  intro f
  induction f with
  | zero => intro i x h1 h2; omega
  | succ f ih =>
    intro i x hi hf hx
    refine pk_le 76 i (fun h => ?_) (fun h => ?_)
    · rcases hx with ⟨rfl, hx⟩ | ⟨rfl, hx⟩
      · exact And.intro rfl (h0 (fun n hn => hx n (by omega)))
      · exact And.intro rfl (h1 hx)
    · rcases hx with ⟨rfl, hx⟩ | ⟨rfl, hx⟩
      · refine br_t rfl (And.intro (pk_in i 1126 (by omega)) ?_)
        rw [nI_clamp (by omega), hs i (by omega)]
        have p1 := cp_15 (mt_enc (c i)).length
        refine pk_le (cp (mt_enc (c i)).length) 14 (fun hc => nm_r (nI_1 i) (ih (i + 1) 0 (by omega) (by omega) (Or.inl ⟨rfl, fun n hn => ?_⟩))) (fun hc => nm_r (nI_1 i) (ih (i + 1) 1 (by omega) (by omega) (Or.inr ⟨rfl, i, by omega, ?_⟩)))
        · by_cases z : n = i
          · subst z; rw [cp_s (by omega)] at hc; exact hc
          · exact hx n (by omega)
        · have := cp_le (mt_enc (c i)).length; omega
      · exact br_f n1_0 (nm_r (nI_1 i) (ih (i + 1) 1 (by omega) (by omega) (Or.inr ⟨rfl, hx⟩)))
theorem x_large {post : Int32 → Prop} {N : Nat} {c : Nat → mt_T} (hN : 76 ≤ N) (hs : ∀ n, n < N → a_nodeSizes n = nI (cp (mt_enc (c n)).length)) (h1 : (∃ n, n < 76 ∧ 14 < (mt_enc (c n)).length) → post 1) (h0 : (∀ n, n < 76 → (mt_enc (c n)).length ≤ 14) → post 0) :
    wpX_hasLargeType post (f_saidPlace, f_instanceCount, f_nodeCount, f_equationCount, f_stackCount, f_wordCount, f_depth, f_cellCount, f_consCount, f_closureCount, f_stepCount, f_runAnswer, f_writtenCount, a_kinds, a_values, a_spans, a_bounds, a_binders, a_lengths, a_parameterCounts, a_typeCodes, a_typeLengths, a_instanceFunctions, a_nodeKinds, a_nodeLefts, a_nodeRights, a_nodeSizes, a_equationLefts, a_equationRights, a_stackLefts, a_stackRights, a_words, a_boundWords, a_cellFirsts, a_cellSeconds, a_closureTokens, a_closureWords, a_written) := Exists.intro 77 (x_large4 hN hs h1 h0 77 0 0 (by omega) (by omega) (Or.inl ⟨rfl, fun n hn => by omega⟩))

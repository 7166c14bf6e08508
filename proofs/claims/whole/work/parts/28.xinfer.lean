variable {f_saidPlace f_instanceCount f_nodeCount f_equationCount f_stackCount f_wordCount f_depth f_cellCount f_consCount f_closureCount f_stepCount f_runAnswer f_writtenCount : Int32} {a_kinds a_values a_spans a_bounds a_binders a_lengths a_parameterCounts a_typeCodes a_typeLengths a_instanceFunctions a_nodeKinds a_nodeLefts a_nodeRights a_nodeSizes a_equationLefts a_equationRights a_stackLefts a_stackRights a_words a_boundWords a_cellFirsts a_cellSeconds a_closureTokens a_closureWords a_written : Nat → Int32}
/-- the rule of token t of the body of f; cod the codes of the functions' types -/
def ru_t (f : Nat) (kN : Nat → Nat) (vl : Nat → Int32) (oc sp bd bi : Nat → Nat) (cod : Nat → List Nat) (t : Nat) (r : Nat → mt_T) : Prop :=
  ru_k (kN t) t (jp sp t) (vw bi bd (bi t) (bi t) (vl t).toNatClampNeg) (decide ((vl t).toNatClampNeg = f)) (oc t) (cod (vl t).toNatClampNeg) r
/-- S0, and the rules of the tokens below t -/
def S_t (S0 : (Nat → mt_T) → Prop) (f : Nat) (kN : Nat → Nat) (vl : Nat → Int32) (oc sp bd bi : Nat → Nat) (cod : Nat → List Nat) (t : Nat) (r : Nat → mt_T) : Prop :=
  S0 r ∧ ∀ s, s < t → ru_t f kN vl oc sp bd bi cod s r
theorem S_s {S0 : (Nat → mt_T) → Prop} {f : Nat} {kN : Nat → Nat} {vl : Nat → Int32} {oc sp bd bi : Nat → Nat} {cod : Nat → List Nat} {t : Nat} {r : Nat → mt_T} :
    S_t S0 f kN vl oc sp bd bi cod (t + 1) r ↔ S_t S0 f kN vl oc sp bd bi cod t r ∧ ru_t f kN vl oc sp bd bi cod t r := by
  constructor
  · rintro ⟨a, b⟩; exact ⟨⟨a, fun s hs => b s (by omega)⟩, b t (by omega)⟩
  · rintro ⟨⟨a, b⟩, c⟩
    refine ⟨a, fun s hs => ?_⟩
    by_cases z : s = t
    · rw [z]; exact c
    · exact b s (by omega)
/-- the types of the functions that a body calls -/
def fn_ok (f n : Nat) (tc tl : Nat → Int32) (kN : Nat → Nat) (vl : Nat → Int32) (oc : Nat → Nat) (cod : Nat → List Nat) : Prop :=
  ∀ t, t < n → kN t = 4 → ∀ g, vl t = nI g → g < 5 → g ≠ f → rw_ok g tc tl (cod g) ∧ (∃ ts, (∀ t ∈ ts, mt_wf t) ∧ mt_encs ts = cod g ∧ ts.length = oc t + 1) ∧ (cod g).length ≤ 14 * (oc t + 1)
theorem ru_t_dep {f n : Nat} {ki va spa bou bin len pc : Nat → Int32} {kN : Nat → Nat} {vl : Nat → Int32} {oc sp bd bi : Nat → Nat} {cod : Nat → List Nat} {t : Nat} (hb : xb_ok f n ki va spa bou bin len pc kN vl oc sp bd bi) (ht : t < n) {r r' : Nat → mt_T}
    (e : ∀ n, n < 74 → r' n = r n) (h : ru_t f kN vl oc sp bd bi cod t r) : ru_t f kN vl oc sp bd bi cod t r' := by
  obtain ⟨n24, bw, _, hb⟩ := hb
  obtain ⟨b1, b2, b3, b4, b5, b6, b7, b8, b9, b10, b11⟩ := hb t ht
  refine ru_dep b2 (by omega) (fun j hj => ?_) (fun z => ?_) (fun z => ?_) e h
  · have : j < oc t := by
      by_cases z : kN t = 4
      · rw [if_pos z] at hj; exact hj
      · rw [if_neg z] at hj; rw [b11 z]; exact hj
    have := (bw_in bw ht this).2.2
    omega
  · obtain ⟨v, v1, v2, v3, v4⟩ := b9 z
    rw [v2, nI_clamp (by omega)]; exact v4
  · obtain ⟨g, g1, g2, g3, g4, g5⟩ := b10 z
    exact g5
theorem A0_0 {N : Nat} {K : Nat → Int32} {L R EL ER : Nat → Nat} {r : Nat → mt_T} : A0 N 0 K L R EL ER r ↔ gr_sat N K L R r := ⟨fun h => h.1, fun h => ⟨h, fun i hi => by omega⟩⟩
theorem x_fit17 {post : Int32 → SX → Prop} {f n : Nat} {kN : Nat → Nat} {vl : Nat → Int32} {oc sp bd bi : Nat → Nat} {cod : Nat → List Nat} {S0 : (Nat → mt_T) → Prop} (hf : f < 5) (hn : 0 < n) (hl : a_lengths f = nI n)
    (hb : xb_ok f n a_kinds a_values a_spans a_bounds a_binders a_lengths a_parameterCounts kN vl oc sp bd bi) (hfn : fn_ok f n a_typeCodes a_typeLengths kN vl oc cod)
    (hPs : ∀ N K nl nr sz el er L R rt ds c, 76 ≤ N → N ≤ 780 → xg_ok N K nl nr L R rt ds → mg_is N (gr_sat N K L R) c → (∀ n, n < N → K n = 10 → c n = .leaf (10 + n)) → (∀ n, n < N → sz n = nI (cp (mt_enc (c n)).length)) →
      pj_is 74 (gr_sat N K L R) (S_t S0 f kN vl oc sp bd bi cod n) → (∀ r, (∀ n, mt_wf (r n)) → gr_sat N K L R r → r 74 = .leaf 0 ∧ r 75 = .leaf 1) → post (-1) (f_saidPlace, f_instanceCount, (nI N), (nI 0), f_stackCount, f_wordCount, f_depth, f_cellCount, f_consCount, f_closureCount, f_stepCount, f_runAnswer, f_writtenCount, a_kinds, a_values, a_spans, a_bounds, a_binders, a_lengths, a_parameterCounts, a_typeCodes, a_typeLengths, a_instanceFunctions, K, nl, nr, sz, el, er, a_stackLefts, a_stackRights, a_words, a_boundWords, a_cellFirsts, a_cellSeconds, a_closureTokens, a_closureWords, a_written))
    (hPf : ∀ t N K nl nr sz el er, t < n → (t = 0 ∨ ∃ r, (∀ n, mt_wf (r n)) ∧ S_t S0 f kN vl oc sp bd bi cod t r) → (∀ r, (∀ n, mt_wf (r n)) → ¬ S_t S0 f kN vl oc sp bd bi cod (t + 1) r) →
      post (nI t) (f_saidPlace, f_instanceCount, (nI N), (nI 0), f_stackCount, f_wordCount, f_depth, f_cellCount, f_consCount, f_closureCount, f_stepCount, f_runAnswer, f_writtenCount, a_kinds, a_values, a_spans, a_bounds, a_binders, a_lengths, a_parameterCounts, a_typeCodes, a_typeLengths, a_instanceFunctions, K, nl, nr, sz, el, er, a_stackLefts, a_stackRights, a_words, a_boundWords, a_cellFirsts, a_cellSeconds, a_closureTokens, a_closureWords, a_written)) :
    ∀ q t fu N e0 K nl nr sz el er L R rt ds EL0 ER0, t + q = n → q < fu → 76 ≤ N → N ≤ 118 + 14 * (sm oc t + t) → e0 ≤ 4 → eq_ok N e0 el er EL0 ER0 → xg_ok N K nl nr L R rt ds → (∀ r, (∀ n, mt_wf (r n)) → A0 N e0 K L R EL0 ER0 r → r 74 = .leaf 0 ∧ r 75 = .leaf 1) →
      pj_is 74 (A0 N e0 K L R EL0 ER0) (S_t S0 f kN vl oc sp bd bi cod t) →
      (t = 0 ∨ e0 = 0 ∧ ∃ c, mg_is N (gr_sat N K L R) c ∧ (∀ n, n < N → K n = 10 → c n = .leaf (10 + n)) ∧ (∀ n, n < N → sz n = nI (cp (mt_enc (c n)).length))) →
      wX_firstIllTyped_17 post (nI f) fu (nI t) f_saidPlace f_instanceCount (nI N) (nI e0) f_stackCount f_wordCount f_depth f_cellCount f_consCount f_closureCount f_stepCount f_runAnswer f_writtenCount a_kinds a_values a_spans a_bounds a_binders a_lengths a_parameterCounts a_typeCodes a_typeLengths a_instanceFunctions K nl nr sz el er a_stackLefts a_stackRights a_words a_boundWords a_cellFirsts a_cellSeconds a_closureTokens a_closureWords a_written := by
  have hb' := hb
  obtain ⟨n24, bw, hsum, hbt⟩ := hb'
  intro q
  induction q with
  | zero =>
    intro t fu N e0 K nl nr sz el er L R rt ds EL0 ER0 ht hfu hN1 hN2 he0 hq0 hg hI hp hc
    obtain ⟨fu, rfl⟩ : ∃ g, fu = g + 1 := ⟨fu - 1, by omega⟩
    have e : t = n := by omega
    subst e
    refine And.intro (pk_in f 11 (by omega)) ?_
    rw [nI_clamp (n := f) (by omega), hl]
    rcases hc with z | ⟨z, c, c1, c2, c3⟩
    · omega
    · subst z
      exact br_t (nI_le (Nat.le_refl _) (by omega)) (hPs N K nl nr sz el er L R rt ds c hN1 (by omega) hg c1 c2 c3 (pj_iff hp (fun r => A0_0)) (fun r hw h => hI r hw (A0_0.mpr h)))
  | succ q ih =>
    intro t fu N e0 K nl nr sz el er L R rt ds EL0 ER0 ht hfu hN1 hN2 he0 hq0 hg hI hp hc
    obtain ⟨fu, rfl⟩ : ∃ g, fu = g + 1 := ⟨fu - 1, by omega⟩
    have htn : t < n := by omega
    obtain ⟨b1, b2, b3, b4, b5, b6, b7, b8, b9, b10, b11⟩ := hbt t htn
    have hso : sm oc (t + 1) = sm oc t + oc t := rfl
    have hmono := sm_mono (g := oc) (a := t + 1) n (by omega)
    have hsat : t = 0 ∨ ∃ r, (∀ n, mt_wf (r n)) ∧ S_t S0 f kN vl oc sp bd bi cod t r := by
      rcases hc with z | ⟨z, c, c1, _, _⟩
      · exact Or.inl z
      · subst z; exact Or.inr ⟨c, c1.1, hp.1 c c1.1 (A0_0.mpr (mg_self c1))⟩
    refine And.intro (pk_in f 11 (by omega)) ?_
    rw [nI_clamp (n := f) (by omega), hl]
    refine br_f (nI_ge (by omega) (by omega)) (And.intro (pk_in (f * 24 + t) 264 (by omega) (ix_24 f t)) ?_)
    have hcx : (nI f * 24 + nI t).toNatClampNeg = f * 24 + t := by rw [ix_24]; exact nI_clamp (by omega)
    rw [hcx, b1]
    -- after stating
    have after : ∀ M, M ≤ 118 + 14 * (sm oc (t + 1) + (t + 1)) → xs_post (fun u => match u with | (f_saidPlace, f_instanceCount, f_nodeCount, f_equationCount, f_stackCount, f_wordCount, f_depth, f_cellCount, f_consCount, f_closureCount, f_stepCount, f_runAnswer, f_writtenCount, a_kinds, a_values, a_spans, a_bounds, a_binders, a_lengths, a_parameterCounts, a_typeCodes, a_typeLengths, a_instanceFunctions, a_nodeKinds, a_nodeLefts, a_nodeRights, a_nodeSizes, a_equationLefts, a_equationRights, a_stackLefts, a_stackRights, a_words, a_boundWords, a_cellFirsts, a_cellSeconds, a_closureTokens, a_closureWords, a_written) => wX_firstIllTyped_57 post (wX_firstIllTyped_17 post (nI f) fu) (nI f) (nI t) f_saidPlace f_instanceCount f_nodeCount f_equationCount f_stackCount f_wordCount f_depth f_cellCount f_consCount f_closureCount f_stepCount f_runAnswer f_writtenCount a_kinds a_values a_spans a_bounds a_binders a_lengths a_parameterCounts a_typeCodes a_typeLengths a_instanceFunctions a_nodeKinds a_nodeLefts a_nodeRights a_nodeSizes a_equationLefts a_equationRights a_stackLefts a_stackRights a_words a_boundWords a_cellFirsts a_cellSeconds a_closureTokens a_closureWords a_written) N M f_saidPlace f_instanceCount (nI N) (nI e0) f_stackCount f_wordCount f_depth f_cellCount f_consCount f_closureCount f_stepCount f_runAnswer f_writtenCount a_kinds a_values a_spans a_bounds a_binders a_lengths a_parameterCounts a_typeCodes a_typeLengths a_instanceFunctions K nl nr sz el er a_stackLefts a_stackRights a_words a_boundWords a_cellFirsts a_cellSeconds a_closureTokens a_closureWords a_written e0 L R EL0 ER0 (ru_t f kN vl oc sp bd bi cod t) := by
      intro M hM N' e' K1 nl1 nr1 sz1 el1 er1 L1 R1 rt1 ds1 EL1 ER1 hNN hNM he' hg1 hq1 hst
      have hpj := pj_step (by omega) hp hst (fun r r' e h => ru_t_dep hb htn e h)
      have hpj1 : pj_is 74 (fun r => gr_sat N' K1 L1 R1 r ∧ eq_all e' EL1 ER1 r) (S_t S0 f kN vl oc sp bd bi cod (t + 1)) :=
        ⟨fun r hw h => S_s.mpr (hpj.1 r hw h), fun r hw h => hpj.2 r hw (S_s.mp h)⟩
      have none : (∀ r, ¬ (gr_sat N' K1 L1 R1 r ∧ eq_all e' EL1 ER1 r)) → ∀ r, (∀ n, mt_wf (r n)) → ¬ S_t S0 f kN vl oc sp bd bi cod (t + 1) r := by
        intro hno r hw h
        obtain ⟨r', _, s', _⟩ := hpj1.2 r hw h
        exact hno r' s'
      refine x_solve (S0 := fun r => gr_sat N' K1 L1 R1 r ∧ eq_all e' EL1 ER1 r) (by omega) (by omega) hg1 hq1 (fun r => Iff.rfl) (fun x1 K2 nl2 el2 er2 L2 rt2 ds2 hg2 hs2 => ?_)
      rcases hs2 with ⟨rfl, hs2⟩ | ⟨rfl, hs2⟩
      · refine br_f n1_0 (x_measure (by omega) hg2 (fun Sz c m1 m2 m3 => ?_) (fun Sz hno => ?_))
        · refine br_f n1_0 (br_f n1_0 (nm_r (nI_1 t) ?_))
          refine ih (t + 1) fu N' 0 K2 nl2 nr1 Sz el2 er2 L2 R1 rt2 ds2 (fun _ => 0) (fun _ => 0) (by omega) (by omega) (by omega) (by omega) (by omega) q0_ok hg2 (fun r hw h => ?_) (pj_iff hpj1 (fun r => (hs2 r).trans A0_0.symm)) (Or.inr ⟨rfl, c, m1, m2, m3⟩)
          have h' := (hs2 r).mpr (A0_0.mp h)
          exact hI r hw (hst.1 r hw h'.1 h'.2).1
        · refine br_t rfl (br_t rfl (hPf t N' K2 nl2 nr1 Sz el2 er2 htn hsat (none (fun r h => hno r ((hs2 r).mp h)))))
      · exact br_t rfl (br_t rfl (hPf t N' K2 nl2 nr1 sz1 el2 er2 htn hsat (none hs2)))
    refine br_c (fun z4 => ?_) (fun z4 => ?_)
    · have k4 : kN t = 4 := (nI_eq (b := 4) (by omega) (by omega)).mp z4
      obtain ⟨g, g1, g2, g3, g4, g5⟩ := b10 k4
      have cg : (vl t).toNatClampNeg = g := by rw [g2]; exact nI_clamp (by omega)
      have hru : ru_t f kN vl oc sp bd bi cod t = ru_k 4 t (jp sp t) (vw bi bd (bi t) (bi t) (vl t).toNatClampNeg) (decide (g = f)) (oc t) (cod g) := by
        unfold ru_t; rw [k4, cg]
      rw [hru] at after
      by_cases own : g = f
      · refine x_stateCall he0 hq0 (n := n) (P := oc t) (own := decide (g = f)) (Lc := cod g) (ts := []) (M := N) hN1 (fun z => by rw [decide_eq_true own] at z; exact absurd z (by decide)) (Nat.le_refl _) (by omega) hf g1 n24 htn g5 g4 (by rw [b3]; exact g2) (by simp) (fun j hj => ?_) (fun z => by rw [decide_eq_true own] at z; exact absurd z (by decide)) hg (after _ (by omega))
        have := (bw_in bw htn hj).2.2
        exact ⟨by omega, (hbt _ this).2.2.2.1⟩
      · obtain ⟨hr, ⟨ts, t1, t2, t3⟩, hlen⟩ := hfn t htn k4 g g2 g1 own
        refine x_stateCall he0 hq0 (n := n) (P := oc t) (own := decide (g = f)) (Lc := cod g) (ts := ts) (M := N + (cod g).length) hN1 (fun _ => Nat.le_refl _) (by omega) (by omega) hf g1 n24 htn g5 g4 (by rw [b3]; exact g2) (by simp) (fun j hj => ?_) (fun _ => ⟨hr, t1, t2, t3⟩) hg (after _ (by omega))
        have := (bw_in bw htn hj).2.2
        exact ⟨by omega, (hbt _ this).2.2.2.1⟩
    · have k4 : kN t ≠ 4 := fun z => z4 (by rw [z]; rfl)
      refine x_stateRule (n := n) (M := N + 2) hN1 (Nat.le_refl _) (by omega) hf htn hb k4 (fun v z hv1 hv2 => ?_) he0 hq0 hg hI (after _ (by omega))
      rw [hv1, nI_clamp (by omega)]

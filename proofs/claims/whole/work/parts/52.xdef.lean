variable {f_saidPlace f_instanceCount f_nodeCount f_equationCount f_stackCount f_wordCount f_depth f_cellCount f_consCount f_closureCount f_stepCount f_runAnswer f_writtenCount : Int32} {a_kinds a_values a_spans a_bounds a_binders a_lengths a_parameterCounts a_typeCodes a_typeLengths a_instanceFunctions a_nodeKinds a_nodeLefts a_nodeRights a_nodeSizes a_equationLefts a_equationRights a_stackLefts a_stackRights a_words a_boundWords a_cellFirsts a_cellSeconds a_closureTokens a_closureWords a_written : Nat → Int32}
theorem x_bad112 {post : Int32 → SX → Prop} {f : Nat} {x3 : Int32} (hf : f < 5) (h : ¬ x3 = 0) (hP : post x3 (f_saidPlace, f_instanceCount, f_nodeCount, f_equationCount, f_stackCount, f_wordCount, f_depth, f_cellCount, f_consCount, f_closureCount, f_stepCount, f_runAnswer, f_writtenCount, a_kinds, a_values, a_spans, a_bounds, a_binders, (upd a_lengths f 0), a_parameterCounts, a_typeCodes, a_typeLengths, a_instanceFunctions, a_nodeKinds, a_nodeLefts, a_nodeRights, a_nodeSizes, a_equationLefts, a_equationRights, a_stackLefts, a_stackRights, a_words, a_boundWords, a_cellFirsts, a_cellSeconds, a_closureTokens, a_closureWords, a_written)) : wX_define_112 post (nI f) x3 f_saidPlace f_instanceCount f_nodeCount f_equationCount f_stackCount f_wordCount f_depth f_cellCount f_consCount f_closureCount f_stepCount f_runAnswer f_writtenCount a_kinds a_values a_spans a_bounds a_binders a_lengths a_parameterCounts a_typeCodes a_typeLengths a_instanceFunctions a_nodeKinds a_nodeLefts a_nodeRights a_nodeSizes a_equationLefts a_equationRights a_stackLefts a_stackRights a_words a_boundWords a_cellFirsts a_cellSeconds a_closureTokens a_closureWords a_written :=
  br_f h (And.intro (pk_in f 11 (by omega)) (nm_r (e' := upd a_lengths f 0) (by rw [nI_clamp (by omega)]) hP))
theorem x_bad71 {post : Int32 → SX → Prop} {f t : Nat} {x3 : Int32} (hf : f < 5) (ht : t < 2 ^ 31) (h : ¬ x3 = 0) (hP : post x3 ((nI t), f_instanceCount, f_nodeCount, f_equationCount, f_stackCount, f_wordCount, f_depth, f_cellCount, f_consCount, f_closureCount, f_stepCount, f_runAnswer, f_writtenCount, a_kinds, a_values, a_spans, a_bounds, a_binders, (upd a_lengths f 0), a_parameterCounts, a_typeCodes, a_typeLengths, a_instanceFunctions, a_nodeKinds, a_nodeLefts, a_nodeRights, a_nodeSizes, a_equationLefts, a_equationRights, a_stackLefts, a_stackRights, a_words, a_boundWords, a_cellFirsts, a_cellSeconds, a_closureTokens, a_closureWords, a_written)) : wX_define_71 post (nI f) x3 (nI t) f_instanceCount f_nodeCount f_equationCount f_stackCount f_wordCount f_depth f_cellCount f_consCount f_closureCount f_stepCount f_runAnswer f_writtenCount a_kinds a_values a_spans a_bounds a_binders a_lengths a_parameterCounts a_typeCodes a_typeLengths a_instanceFunctions a_nodeKinds a_nodeLefts a_nodeRights a_nodeSizes a_equationLefts a_equationRights a_stackLefts a_stackRights a_words a_boundWords a_cellFirsts a_cellSeconds a_closureTokens a_closureWords a_written :=
  br_f (ni_ne1 ht) (br_f (ni_ne1 ht) (x_bad112 hf h hP))
/-- the draft as the body of f; the others' lengths -/
def xd_ok (f n : Nat) (ln1 : Nat → Nat) (dk : Nat → Nat) (dv : Nat → Int32) (ki0 va0 le0 ki va le : Nat → Int32) : Prop :=
  (∀ h, h < 5 → le h = nI (ln1 h)) ∧ (∀ j, 5 ≤ j → le j = le0 j) ∧ (∀ t, t < n → ki (f * 24 + t) = nI (dk t) ∧ va (f * 24 + t) = dv t) ∧ (∀ j, j < f * 24 ∨ f * 24 + 24 ≤ j → ki j = ki0 j ∧ va j = va0 j)
/-- what is known of a body that is shaped and bound -/
theorem bd_make {n P f : Nat} {kN : Nat → Nat} {vl : Nat → Int32} {oc sp bd bi : Nat → Nat} {mis : Nat → Prop} (hn : n ≤ 24) (hP2 : P ≤ 2) (hk : ∀ t, t < n → kN t ≤ 16 ∧ (kN t = 3 → ∃ v, v < 10 ∧ vl t = nI v)) (ho : ∀ t, t < n → oc t ≤ 3 ∧ (kN t ≠ 4 → oc t = ar (kN t)))
    (hA : ∀ s, s < n → aw oc s ≠ 0) (hAn : aw oc n = 0) (hbw : bw_is n oc sp) (htr : tr_ok n kN oc sp bd bi) (h0 : bd 0 = P) (hu : ∀ s, s < n → ¬ ub bd kN vl mis s) :
    bd_ok n kN vl oc sp bd bi ∧ (∀ t, t < n → bd t ≤ 10) ∧ (∀ t, t < n → 0 < op (kN t) → bd t + op (kN t) ≤ 10) := by
  have hop : ∀ t, t < n → 0 < op (kN t) → bd t + op (kN t) ≤ 10 := by
    intro t ht h1
    have := hu t ht
    apply Classical.byContradiction
    intro z
    exact this (Or.inr (Or.inl ⟨h1, by omega⟩))
  have h10 : ∀ t, t < n → bd t ≤ 10 := fun t ht => bd_10 hbw htr h0 hP2 (fun s hs => ⟨(hk s hs).1, (ho s hs).2⟩) hop t t (Nat.le_refl _) ht
  have hbi : ∀ t, t < n → bi t ≤ t := fun t ht => bi_t hbw htr t t (Nat.le_refl _) ht
  refine ⟨⟨hn, hbw, ?_, htr, fun t ht => ⟨(hk t ht).1, (ho t ht).1, by have := h10 t ht; omega, hbi t ht, (ho t ht).2, fun z => ?_⟩⟩, h10, hop⟩
  · have := bw_sum (n := n) (oc := oc) (A := aw oc) rfl (fun t ht => aw_s (hA t ht)) n (Nat.le_refl _)
    omega
  · obtain ⟨v, v1, v2⟩ := (hk t ht).2 z
    have hv : v < bd t := by
      apply Classical.byContradiction
      intro y
      exact hu t ht (Or.inl ⟨z, v, v1, v2, by omega⟩)
    exact ⟨v, v1, v2, hv, yl_74 hP2 (wv_in hn hbw htr hbi h0 t t (Nat.le_refl _) ht v hv)⟩
theorem aw_pos {oc : Nat → Nat} {n : Nat} (h : aw oc n = 0) : 0 < n := by
  cases n with
  | zero => simp [aw] at h
  | succ n => omega
theorem x_define {post : Int32 → SX → Prop} {f P n : Nat} {kN vN : Nat → Nat → Nat} {ln ln1 : Nat → Nat} {dk : Nat → Nat} {dv : Nat → Int32} {oc : Nat → Nat} {cod : Nat → List Nat} (hf : f < 5) (hP2 : P ≤ 2) (hn : n ≤ 24) (hx : xl_ok a_kinds a_values kN vN ln) (hl : ∀ h, h < 5 → a_lengths h = nI (ln h)) (hln1 : ln1 = dpn kN vN (updN ln f 0) 5)
    (hd : a_lengths 10 = nI n) (hxt : xt_ok 10 n a_kinds a_values dk dv) (ho : ∀ le, (∀ h, h < 5 → le h = nI (ln1 h)) → xo_ok n dk dv oc (upd (upd le f (nI n)) 10 0) (upd a_parameterCounts f (nI P))) (ho2 : ∀ t, t < n → dk t = 4 → oc t ≤ 2)
    (hfn : (∀ le t, (∀ h, h < 5 → le h = nI (ln1 h)) → t < n → dk t = 4 → ∃ g, g < 5 ∧ dv t = nI g ∧ upd (upd le f (nI n)) 10 0 g ≠ 0) → fn_ok f n a_typeCodes a_typeLengths dk dv oc cod)
    (hS : ∀ t le ki va, xd_ok f n ln1 dk dv a_kinds a_values a_lengths ki va le → (t < n ∧ aw oc t = 0 ∧ (∀ s, s < t → aw oc s ≠ 0)) ∨ (t = n ∧ (∀ s, s < n → aw oc s ≠ 0) ∧ aw oc n ≠ 0) →
      post 1 ((nI t), f_instanceCount, f_nodeCount, f_equationCount, f_stackCount, f_wordCount, f_depth, f_cellCount, f_consCount, f_closureCount, f_stepCount, f_runAnswer, f_writtenCount, ki, va, a_spans, a_bounds, a_binders, (upd (upd (upd le f (nI n)) 10 0) f 0), (upd a_parameterCounts f (nI P)), a_typeCodes, a_typeLengths, a_instanceFunctions, a_nodeKinds, a_nodeLefts, a_nodeRights, a_nodeSizes, a_equationLefts, a_equationRights, a_stackLefts, a_stackRights, a_words, a_boundWords, a_cellFirsts, a_cellSeconds, a_closureTokens, a_closureWords, a_written))
    (hU : ∀ t le ki va spA bo bin sp bd bi, xd_ok f n ln1 dk dv a_kinds a_values a_lengths ki va le → (∀ j, j < f * 24 ∨ f * 24 + 24 ≤ j → spA j = a_spans j ∧ bo j = a_bounds j ∧ bin j = a_binders j) → (∀ s, s < n → aw oc s ≠ 0) → aw oc n = 0 → bw_is n oc sp → tr_ok n dk oc sp bd bi → bd 0 = P → (∀ s, s < n → bd s ≤ 100) →
      t < n → ub bd dk dv (fun g => upd (upd le f (nI n)) 10 0 g = 0) t → (∀ s, s < t → ¬ ub bd dk dv (fun g => upd (upd le f (nI n)) 10 0 g = 0) s) →
      post 2 ((nI t), f_instanceCount, f_nodeCount, f_equationCount, f_stackCount, f_wordCount, f_depth, f_cellCount, f_consCount, f_closureCount, f_stepCount, f_runAnswer, f_writtenCount, ki, va, spA, bo, bin, (upd (upd (upd le f (nI n)) 10 0) f 0), (upd a_parameterCounts f (nI P)), a_typeCodes, a_typeLengths, a_instanceFunctions, a_nodeKinds, a_nodeLefts, a_nodeRights, a_nodeSizes, a_equationLefts, a_equationRights, a_stackLefts, a_stackRights, a_words, a_boundWords, a_cellFirsts, a_cellSeconds, a_closureTokens, a_closureWords, a_written))
    (hR : ∀ le ki va spA bo bin sp bd bi, xd_ok f n ln1 dk dv a_kinds a_values a_lengths ki va le → (∀ j, j < f * 24 ∨ f * 24 + 24 ≤ j → spA j = a_spans j ∧ bo j = a_bounds j ∧ bin j = a_binders j) → (∀ t, t < n → spA (f * 24 + t) = nI (sp t) ∧ bo (f * 24 + t) = nI (bd t) ∧ bin (f * 24 + t) = (if bi t = 0 then -1 else nI (bi t - 1))) →
      (∀ s, s < n → aw oc s ≠ 0) → aw oc n = 0 → tr_ok n dk oc sp bd bi → bd 0 = P → (∀ s, s < n → bd s ≤ 100) → bd_ok n dk dv oc sp bd bi → (∀ t, t < n → bd t ≤ 10) → (∀ t, t < n → 0 < op (dk t) → bd t + op (dk t) ≤ 10) → (∀ s, s < n → ¬ ub bd dk dv (fun g => upd (upd le f (nI n)) 10 0 g = 0) s) →
      (∀ t N K nl nr sz el er, t < n → (t = 0 ∨ ∃ r, (∀ n, mt_wf (r n)) ∧ S_t (fun _ => True) f dk dv oc sp bd bi cod t r) → (∀ r, (∀ n, mt_wf (r n)) → ¬ S_t (fun _ => True) f dk dv oc sp bd bi cod (t + 1) r) →
        post 3 ((nI t), f_instanceCount, N, (nI 0), f_stackCount, f_wordCount, f_depth, f_cellCount, f_consCount, f_closureCount, f_stepCount, f_runAnswer, f_writtenCount, ki, va, spA, bo, bin, (upd (upd (upd le f (nI n)) 10 0) f 0), (upd a_parameterCounts f (nI P)), a_typeCodes, a_typeLengths, a_instanceFunctions, K, nl, nr, sz, el, er, a_stackLefts, a_stackRights, a_words, a_boundWords, a_cellFirsts, a_cellSeconds, a_closureTokens, a_closureWords, a_written)) ∧
      (∀ (N : Nat) (Sol : (Nat → mt_T) → Prop) (c : Nat → mt_T), 74 ≤ N → mg_is N Sol c → pj_is 74 Sol (S_t (fun _ => True) f dk dv oc sp bd bi cod n) → (∃ p, p < 74 ∧ 14 < (mt_enc (c p)).length) → ∀ nc K nl nr sz el er,
        post 4 ((-1), f_instanceCount, nc, (nI 0), f_stackCount, f_wordCount, f_depth, f_cellCount, f_consCount, f_closureCount, f_stepCount, f_runAnswer, f_writtenCount, ki, va, spA, bo, bin, (upd (upd (upd le f (nI n)) 10 0) f 0), (upd a_parameterCounts f (nI P)), a_typeCodes, a_typeLengths, a_instanceFunctions, K, nl, nr, sz, el, er, a_stackLefts, a_stackRights, a_words, a_boundWords, a_cellFirsts, a_cellSeconds, a_closureTokens, a_closureWords, a_written)) ∧
      (∀ (N : Nat) (Sol : (Nat → mt_T) → Prop) (c : Nat → mt_T), 74 ≤ N → mg_is N Sol c → pj_is 74 Sol (S_t (fun _ => True) f dk dv oc sp bd bi cod n) → (∀ p, p < 74 → (mt_enc (c p)).length ≤ 14) → ∀ nc K nl nr sz el er sl sr tc,
        (∀ j, j < f * 42 ∨ f * 42 + 42 ≤ j → tc j = a_typeCodes j) → (∀ i, i < (mt_encs ((ow_st P).map c)).length → tc (f * 42 + i) = nI ((cn_go [] (mt_encs ((ow_st P).map c))).getD i 0)) →
        post 0 ((-1), f_instanceCount, nc, (nI 0), (nI 0), f_wordCount, f_depth, f_cellCount, f_consCount, f_closureCount, f_stepCount, f_runAnswer, f_writtenCount, ki, va, spA, bo, bin, (upd (upd le f (nI n)) 10 0), (upd a_parameterCounts f (nI P)), tc, (upd a_typeLengths f (nI (mt_encs ((ow_st P).map c)).length)), a_instanceFunctions, K, nl, nr, sz, el, er, sl, sr, a_words, a_boundWords, a_cellFirsts, a_cellSeconds, a_closureTokens, a_closureWords, a_written))) :
    wpX_define post (f_saidPlace, f_instanceCount, f_nodeCount, f_equationCount, f_stackCount, f_wordCount, f_depth, f_cellCount, f_consCount, f_closureCount, f_stepCount, f_runAnswer, f_writtenCount, a_kinds, a_values, a_spans, a_bounds, a_binders, a_lengths, a_parameterCounts, a_typeCodes, a_typeLengths, a_instanceFunctions, a_nodeKinds, a_nodeLefts, a_nodeRights, a_nodeSizes, a_equationLefts, a_equationRights, a_stackLefts, a_stackRights, a_words, a_boundWords, a_cellFirsts, a_cellSeconds, a_closureTokens, a_closureWords, a_written) (nI f) (nI P) := by
  refine br_f (lt0_n (by omega)) (br_f (nI_ge (b := 5) (by omega) (by omega)) (br_f (lt0_n (by omega)) (br_t (nI_le (b := 2) (by omega) (by omega)) ?_)))
  refine x_dropBody hf hx hl (fun le k1 k2 => ?_)
  rw [← hln1] at k1
  refine x_takeDraft (n := n) hf hn (by rw [k2 10 (by omega)]; exact hd) (fun ki va k3 k4 => ?_)
  have hxd : xd_ok f n ln1 dk dv a_kinds a_values a_lengths ki va le := ⟨k1, k2, fun t ht => ⟨(k3 t ht).1.trans (hxt.2 t ht).1, (k3 t ht).2.trans (hxt.2 t ht).2.2.1⟩, k4⟩
  have hxo := ho le k1
  have hxt' : xt_ok f n ki va dk dv := ⟨hn, fun t ht => ⟨(hxd.2.2.1 t ht).1, (hxt.2 t ht).2.1, (hxd.2.2.1 t ht).2, (hxt.2 t ht).2.2.2⟩⟩
  have hl' : upd (upd le f (nI n)) 10 0 f = nI n := by rw [pk_un (by omega), pk_us]
  refine x_firstMisshapen (n := n) (kN := dk) (vl := dv) (oc := oc) hf hl' hxt' hxo (fun t h1 h2 h3 => ?_) (fun h1 h2 => ?_) (fun h1 h2 => ?_)
  · exact br_f (ni_ne1 (by omega)) (x_bad71 hf (by omega) (by decide) (hS t le ki va hxd (Or.inl ⟨h1, h2, h3⟩)))
  · have hn0 := aw_pos h2
    refine br_t rfl (x_measureSpans (n := n) (kN := dk) (vl := dv) (oc := oc) hf hl' hxt' hxo hn0 h1 h2 (fun spA sp s1 s2 hbw => ?_))
    obtain ⟨bd, bi, t0, t1, t2⟩ := tr_ex (kN := dk) hbw P n (Nat.le_refl _)
    have htr : tr_ok n dk oc sp bd bi := ⟨t1, fun t ht j hj => t2 t ht j hj (bw_in hbw ht hj).2.2⟩
    have hb100 : ∀ s, s < n → bd s ≤ 100 := fun s hs => by have := bd_2 hbw htr t0 s s (Nat.le_refl _) hs; omega
    refine x_markScopes (n := n) (P := P) (kN := dk) (oc := oc) (sp := sp) (bd := bd) (bi := bi) (vl := dv) hf hl' pk_us hxt' hxo hbw htr hb100 t0 s1 (fun bo bin b1 b2 => ?_)
    have hout : ∀ j, j < f * 24 ∨ f * 24 + 24 ≤ j → spA j = a_spans j ∧ bo j = a_bounds j ∧ bin j = a_binders j := fun j hj => ⟨s2 j hj, b1 j hj⟩
    refine x_firstUnbound (n := n) (kN := dk) (bd := bd) (vl := dv) hf hl' hxt' (fun s hs => ⟨(b2 s hs).1, hb100 s hs⟩) (fun t u1 u2 u3 => ?_) (fun u => ?_)
    · exact x_bad71 hf (by omega) (by decide) (hU t le ki va spA bo bin sp bd bi hxd hout h1 h2 hbw htr t0 hb100 u1 u2 u3)
    · obtain ⟨hbd, h10, hop⟩ := bd_make (P := P) (f := f) hn hP2 (fun t ht => ⟨(hxt.2 t ht).2.1, (hxt.2 t ht).2.2.2.1⟩) (fun t ht => ⟨(hxo t ht).1, (hxo t ht).2.1⟩) h1 h2 hbw htr t0 u
      have h4 : ∀ t, t < n → dk t = 4 → ∃ g, g < 5 ∧ dv t = nI g ∧ upd (upd le f (nI n)) 10 0 g ≠ 0 := by
        intro t ht z
        obtain ⟨g, g1, g2⟩ := (hxt.2 t ht).2.2.2.2 z
        exact ⟨g, g1, g2, fun w => u t ht (Or.inr (Or.inr ⟨z, g, g1, g2, w⟩))⟩
      have hxb : xb_ok f n ki va spA bo bin (upd (upd le f (nI n)) 10 0) (upd a_parameterCounts f (nI P)) dk dv oc sp bd bi := by
        obtain ⟨c1, c2, c3, c4, c5⟩ := hbd
        refine ⟨c1, c2, c3, fun t ht => ?_⟩
        obtain ⟨d1, d2, d3, d4, d5, d6⟩ := c5 t ht
        refine ⟨(hxd.2.2.1 t ht).1, d1, (hxd.2.2.1 t ht).2, s1 t ht, (b2 t ht).1, d3, (b2 t ht).2, d4, d6, fun z => ?_, d5⟩
        obtain ⟨g, g1, g2, g3⟩ := h4 t ht z
        rcases (hxo t ht).2.2 z g g2 g1 with ⟨w, _⟩ | ⟨_, w⟩
        · exact absurd w g3
        · exact ⟨g, g1, g2, g3, w, ho2 t ht z⟩
      have hfn' := hfn (fun le' t q1 ht z => by
        obtain ⟨g, g1, g2, g3⟩ := h4 t ht z
        refine ⟨g, g1, g2, ?_⟩
        by_cases w : g = f
        · subst w; rw [pk_un (by omega), pk_us] at g3 ⊢; exact g3
        · rw [pk_un (by omega), pk_un w] at g3 ⊢; rw [q1 g g1, ← k1 g g1]; exact g3)
      obtain ⟨r1, r2, r3⟩ := hR le ki va spA bo bin sp bd bi hxd hout (fun t ht => ⟨s1 t ht, (b2 t ht).1, (b2 t ht).2⟩) h1 h2 htr t0 hb100 hbd h10 hop u
      refine br_t rfl (x_ill (n := n) (cod := cod) hf hn0 hl' hxb hfn' (fun N K nl nr sz el er L R rt ds c n1 n2 hg hm hv hz hp h75 => ?_) (fun t N K nl nr sz el er ht e1 e2 => ?_))
      · obtain ⟨c74, c75⟩ := h75 c hm.1 (mg_self hm)
        refine br_t rfl (x_large (N := N) (c := c) n1 hz (fun h => ?_) (fun h => ?_))
        · refine br_f n1_0 (x_bad112 hf (by decide) (r2 N _ c (by omega) hm hp ?_ _ K nl nr sz el er))
          obtain ⟨p, p1, p2⟩ := h
          by_cases w : p < 74
          · exact ⟨p, w, p2⟩
          · exfalso
            have : p = 74 ∨ p = 75 := by omega
            rcases this with rfl | rfl
            · rw [c74] at p2; simp [mt_enc] at p2
            · rw [c75] at p2; simp [mt_enc] at p2
        · have hle : (mt_encs ((ow_st P).map c)).length ≤ 42 := by
            have := pr_le (c := c) (P := P) (fun p hp => h (72 + p) (by omega)) P (Nat.le_refl _)
            have := h 0 (by omega)
            rw [ow_enc, List.length_append]; omega
          refine br_t rfl (br_t rfl (x_writeOwnType (P := P) (c := c) hf n1 (by omega) hP2 pk_us hg hm hv hle (fun nl' sl sr tc q1 q2 => ?_)))
          exact r3 N _ c (by omega) hm hp (fun p hp => h p (by omega)) _ K nl' nr sz el er sl sr tc q1 q2
      · exact br_f (ni_ne1 (by omega)) (x_bad112 hf (by decide) (r1 t _ K nl nr sz el er ht e1 e2))
  · exact br_f (ni_ne1 (by omega)) (x_bad71 hf (by omega) (by decide) (hS n le ki va hxd (Or.inr ⟨rfl, h1, h2⟩)))

variable {f_saidPlace f_instanceCount f_nodeCount f_equationCount f_stackCount f_wordCount f_depth f_cellCount f_consCount f_closureCount f_stepCount f_runAnswer f_writtenCount : Int32} {a_kinds a_values a_spans a_bounds a_binders a_lengths a_parameterCounts a_typeCodes a_typeLengths a_instanceFunctions a_nodeKinds a_nodeLefts a_nodeRights a_nodeSizes a_equationLefts a_equationRights a_stackLefts a_stackRights a_words a_boundWords a_cellFirsts a_cellSeconds a_closureTokens a_closureWords a_written : Nat → Int32}
theorem x_loadRow {post : Int32 → SX → Prop} {B row : Nat} {Lc : List Nat} {tau : Nat → mt_T} {L R rt ds : Nat → Nat} (hr : rw_ok row a_typeCodes a_typeLengths Lc) (ht : tk_at Lc tau) (hB : B + Lc.length ≤ 1126)
    (hg : xg_ok B a_nodeKinds a_nodeLefts a_nodeRights L R rt ds)
    (hP : ∀ K' nl' nr' sz' L' R' rt' ds', xg_ok (B + Lc.length) K' nl' nr' L' R' rt' ds' → (∀ n, n < B → K' n = a_nodeKinds n ∧ L' n = L n ∧ R' n = R n) → tl_is B (B + Lc.length) K' L' R' (fun n => tau (n - B)) →
      (∀ n v, B ≤ n → n < B + Lc.length → K' n = 10 → tau (n - B) = .leaf (10 + v) → B + cn_ix (10 + v) Lc = n) → (∀ j, j < Lc.length → sz' (B + j) = nI (mt_enc (tau j)).length) →
      post (nI B) (f_saidPlace, f_instanceCount, (nI (B + Lc.length)), f_equationCount, f_stackCount, f_wordCount, f_depth, f_cellCount, f_consCount, f_closureCount, f_stepCount, f_runAnswer, f_writtenCount, a_kinds, a_values, a_spans, a_bounds, a_binders, a_lengths, a_parameterCounts, a_typeCodes, a_typeLengths, a_instanceFunctions, K', nl', nr', sz', a_equationLefts, a_equationRights, a_stackLefts, a_stackRights, a_words, a_boundWords, a_cellFirsts, a_cellSeconds, a_closureTokens, a_closureWords, a_written)) : wpX_loadRow post (f_saidPlace, f_instanceCount, (nI B), f_equationCount, f_stackCount, f_wordCount, f_depth, f_cellCount, f_consCount, f_closureCount, f_stepCount, f_runAnswer, f_writtenCount, a_kinds, a_values, a_spans, a_bounds, a_binders, a_lengths, a_parameterCounts, a_typeCodes, a_typeLengths, a_instanceFunctions, a_nodeKinds, a_nodeLefts, a_nodeRights, a_nodeSizes, a_equationLefts, a_equationRights, a_stackLefts, a_stackRights, a_words, a_boundWords, a_cellFirsts, a_cellSeconds, a_closureTokens, a_closureWords, a_written) (nI row) := by
  have h1 := hr.1
  have h2 := hr.2.1
  refine And.intro (pk_in row 18 h1) (nm_r (e' := nI Lc.length + (-1)) (by rw [nI_clamp (by omega), hr.2.2.1, Int32.sub_eq_add_neg]) (Exists.intro (Lc.length + 1) ?_))
  refine x_load14 hr ht hB (fun K' nl' nr' sz' hlow hin => ?_) Lc.length (Lc.length + 1) _ _ _ _ (Nat.le_refl _) (by omega) (fun n _ => ⟨rfl, rfl, rfl⟩) (fun j h3 h4 => by omega)
  obtain ⟨L', R', rt', ds', g', gl, gt, gv⟩ := ld_fin hg ht hlow hin
  exact hP K' nl' nr' sz' L' R' rt' ds' g' (fun n hn => ⟨(hlow n hn).1, gl n hn⟩) gt gv (fun j hj => (hin j hj).2.2.2)
/-- a row that is loaded, and its trees made equal to nodes: what that says -/
theorem ld_st {B M e P b : Nat} {Lc : List Nat} {ts : List mt_T} {tau : Nat → mt_T} {K nl nr K' el0 er0 : Nat → Int32} {L R rt ds L' R' EL ER EL0 ER0 a : Nat → Nat} {e0 : Nat} (hq0 : eq_ok B e0 el0 er0 EL0 ER0) (hg : xg_ok B K nl nr L R rt ds) (hM : M = B + Lc.length)
    (ht : tk_at Lc tau) (hw : ∀ t ∈ ts, mt_wf t) (hL : mt_encs ts = Lc) (hlen : ts.length = P + 1) (hp : ∀ j, j < ts.length → tau (tk_pos ts j) = ts.getD j (.leaf 0))
    (hlow : ∀ n, n < B → K' n = K n ∧ L' n = L n ∧ R' n = R n) (htl : tl_is B M K' L' R' (fun n => tau (n - B)))
    (hv : ∀ n v, B ≤ n → n < M → K' n = 10 → tau (n - B) = .leaf (10 + v) → B + cn_ix (10 + v) Lc = n)
    (ha : ∀ j, j < P → a j < B) (hb : b < B) (he : ∀ r, eq_all e EL ER r ↔ eq_all e0 EL0 ER0 r ∧ (∀ j, j < P → r (a j) = r (B + tk_pos ts j)) ∧ r b = r (B + tk_pos ts P)) :
    st_ok B e0 K L R EL0 ER0 M e K' L' R' EL ER (fun r => sc_inst Lc ((List.range P).map (fun j => r (a j)) ++ [r b])) := by
  have pl : ∀ j, j ≤ P → tk_pos ts j < Lc.length := fun j hj => by rw [← hL]; exact tk_pos_lt ts j (by omega)
  have sb : ∀ i, B + i - B = i := fun i => by omega
  have hext := fun r => gr_sat_ext (r := r) (N := B) (M := M) (K := K) (K' := K') (L := L) (L' := L') (R := R) (R' := R') (by omega) (fun n hn => (hlow n hn).1) (fun n hn _ => (hlow n hn).2.1) (fun n hn _ => (hlow n hn).2.2)
  refine ⟨fun r hwf h1 h2 => ?_, fun r hwf h1 h2 => ?_⟩
  · obtain ⟨g1, g2⟩ := (hext r).mp h1
    obtain ⟨e0', e1, e2⟩ := (he r).mp h2
    refine ⟨⟨g1, e0'⟩, ts, hw, hL, fun v => r (B + cn_ix (10 + v) Lc), fun v => hwf _, (tu_iff P ts _ _ _ hlen).mpr ?_⟩
    have key : ∀ j, j ≤ P → r (B + tk_pos ts j) = mt_sub (fun v => r (B + cn_ix (10 + v) Lc)) (ts.getD j (.leaf 0)) := by
      intro j hj
      have := tl_1 htl hv g2 _ (B + tk_pos ts j) (by omega) (by have := pl j hj; omega) (Nat.le_refl _)
      rw [sb, hp j (by omega)] at this
      exact this
    exact ⟨fun j hj => by rw [e1 j hj]; exact key j (by omega), by rw [e2]; exact key P (Nat.le_refl _)⟩
  · obtain ⟨ts', hw', hL', s, hs, hts⟩ := h2
    have ets : ts' = ts := mt_decs ts' ts hw' hw (hL'.trans hL.symm)
    subst ets
    obtain ⟨e1, e2⟩ := (tu_iff P ts' _ _ _ hlen).mp hts
    let r' : Nat → mt_T := fun n => if n < B then r n else if n < M then mt_sub s (tau (n - B)) else .leaf 0
    have rl : ∀ n, n < B → r' n = r n := fun n hn => if_pos hn
    have rh : ∀ n, B ≤ n → n < M → r' n = mt_sub s (tau (n - B)) := fun n h3 h4 => by show (if n < B then _ else if n < M then _ else _) = _; rw [if_neg (by omega), if_pos h4]
    refine ⟨r', fun n => ?_, rl, (hext r').mpr ⟨xg_low hg rl h1.1, tl_2 htl rh⟩, (he r').mpr ⟨(A0_low hg hq0 rl h1).2, fun j hj => ?_, ?_⟩⟩
    · show mt_wf (if n < B then _ else if n < M then _ else _)
      split
      · exact hwf n
      · split
        · exact mt_sub_wf hs _ (ht (n - B) (by omega)).1
        · exact mt_wf0
    · have := pl j (by omega)
      rw [rl _ (ha j hj), rh _ (by omega) (by omega), sb, hp j (by omega)]
      exact e1 j hj
    · have := pl P (Nat.le_refl _)
      rw [rl _ hb, rh _ (by omega) (by omega), sb, hp P (by omega)]
      exact e2
/-- the parameters' nodes and the body's made equal to the trees of a row -/
theorem x_si9 {post : SX → Prop} {B M f P : Nat} {Lc : List Nat} {ts : List mt_T} (hM : M = B + Lc.length) (hM2 : M ≤ 1126) (hB : 76 ≤ B) (hf : f < 11) (hP2 : P ≤ 2) (hpc : a_parameterCounts f = nI P) (hlen : ts.length = P + 1) (hL : mt_encs ts = Lc)
    (hsz : ∀ j, j < P → a_nodeSizes (B + tk_pos ts j) = nI (mt_enc (ts.getD j (.leaf 0))).length)
    (hPo : ∀ el er EL ER, eq_ok M (P + 1) el er EL ER → (∀ r, eq_all (P + 1) EL ER r ↔ (∀ j, j < P → r (72 + j) = r (B + tk_pos ts j)) ∧ r 0 = r (B + tk_pos ts P)) → post (f_saidPlace, f_instanceCount, f_nodeCount, (nI (P + 1)), f_stackCount, f_wordCount, f_depth, f_cellCount, f_consCount, f_closureCount, f_stepCount, f_runAnswer, f_writtenCount, a_kinds, a_values, a_spans, a_bounds, a_binders, a_lengths, a_parameterCounts, a_typeCodes, a_typeLengths, a_instanceFunctions, a_nodeKinds, a_nodeLefts, a_nodeRights, a_nodeSizes, el, er, a_stackLefts, a_stackRights, a_words, a_boundWords, a_cellFirsts, a_cellSeconds, a_closureTokens, a_closureWords, a_written)) :
    ∀ q p fu el er EL ER, p + q = P → q < fu → eq_ok M p el er EL ER → (∀ r, eq_all p EL ER r ↔ ∀ j, j < p → r (72 + j) = r (B + tk_pos ts j)) →
      wX_stateInstance_9 post (nI f) fu (nI (B + tk_pos ts p)) (nI p) f_saidPlace f_instanceCount f_nodeCount (nI p) f_stackCount f_wordCount f_depth f_cellCount f_consCount f_closureCount f_stepCount f_runAnswer f_writtenCount a_kinds a_values a_spans a_bounds a_binders a_lengths a_parameterCounts a_typeCodes a_typeLengths a_instanceFunctions a_nodeKinds a_nodeLefts a_nodeRights a_nodeSizes el er a_stackLefts a_stackRights a_words a_boundWords a_cellFirsts a_cellSeconds a_closureTokens a_closureWords a_written := by
  have pl : ∀ j, j ≤ P → tk_pos ts j < Lc.length := fun j hj => by rw [← hL]; exact tk_pos_lt ts j (by omega)
  intro q
  induction q with
  | zero =>
    intro p fu el er EL ER hp hfu hq hr
    obtain ⟨fu, rfl⟩ : ∃ g, fu = g + 1 := ⟨fu - 1, by omega⟩
    have ep : p = P := by omega
    subst ep
    have := pl p (Nat.le_refl _)
    refine And.intro (pk_in f 11 hf) ?_
    rw [nI_clamp (n := f) (by omega), hpc]
    refine br_t (nI_le (Nat.le_refl _) (by omega)) (x_equate (by omega) ?_)
    exact hPo _ _ _ _ (eq_up (a := 0) hq (by omega) (by omega)) (fun r => by rw [eq_upa, hr r])
  | succ q ih =>
    intro p fu el er EL ER hp hfu hq hr
    obtain ⟨fu, rfl⟩ : ∃ g, fu = g + 1 := ⟨fu - 1, by omega⟩
    have h1 := pl p (by omega)
    refine And.intro (pk_in f 11 hf) ?_
    rw [nI_clamp (n := f) (by omega), hpc]
    refine br_f (nI_ge (by omega) (by omega)) ?_
    rw [ix_72]
    refine x_equate (by omega) (And.intro (pk_in (B + tk_pos ts p) 1126 (by omega)) (nm_r (e' := nI (B + tk_pos ts (p + 1))) ?_ (nm_r (nI_1 p) ?_)))
    · rw [nI_clamp (by omega), hsz p (by omega), nI_add, tk_pos_s ts p (by omega)]; exact congrArg nI (by omega)
    · refine ih (p + 1) fu _ _ _ _ (by omega) (by omega) (eq_up hq (by omega) (by omega)) (fun r => ?_)
      rw [eq_upa, hr r]
      constructor
      · rintro ⟨a, b⟩ j hj
        by_cases z : j = p
        · subst z; exact b
        · exact a j (by omega)
      · intro h; exact ⟨fun j hj => h j (by omega), h p (by omega)⟩
theorem x_stateInstance {post : SX → Prop} {N M f row P : Nat} {Lc : List Nat} {ts : List mt_T} {L R rt ds : Nat → Nat} (hN : 76 ≤ N) (hM : N + Lc.length ≤ M) (hM2 : M ≤ 1126) (hf : f < 11) (hP2 : P ≤ 2) (hpc : a_parameterCounts f = nI P) (hr : rw_ok row a_typeCodes a_typeLengths Lc)
    (hw : ∀ t ∈ ts, mt_wf t) (hL : mt_encs ts = Lc) (hlen : ts.length = P + 1) (hg : xg_ok N a_nodeKinds a_nodeLefts a_nodeRights L R rt ds)
    (hP : xs_post post N M f_saidPlace f_instanceCount (nI N) (nI 0) f_stackCount f_wordCount f_depth f_cellCount f_consCount f_closureCount f_stepCount f_runAnswer f_writtenCount a_kinds a_values a_spans a_bounds a_binders a_lengths a_parameterCounts a_typeCodes a_typeLengths a_instanceFunctions a_nodeKinds a_nodeLefts a_nodeRights a_nodeSizes a_equationLefts a_equationRights a_stackLefts a_stackRights a_words a_boundWords a_cellFirsts a_cellSeconds a_closureTokens a_closureWords a_written 0 L R (fun _ => 0) (fun _ => 0) (fun r => sc_inst Lc ((List.range P).map (fun j => r (72 + j)) ++ [r 0]))) :
    wpX_stateInstance post (f_saidPlace, f_instanceCount, (nI N), (nI 0), f_stackCount, f_wordCount, f_depth, f_cellCount, f_consCount, f_closureCount, f_stepCount, f_runAnswer, f_writtenCount, a_kinds, a_values, a_spans, a_bounds, a_binders, a_lengths, a_parameterCounts, a_typeCodes, a_typeLengths, a_instanceFunctions, a_nodeKinds, a_nodeLefts, a_nodeRights, a_nodeSizes, a_equationLefts, a_equationRights, a_stackLefts, a_stackRights, a_words, a_boundWords, a_cellFirsts, a_cellSeconds, a_closureTokens, a_closureWords, a_written) (nI f) (nI row) := by
  obtain ⟨tau, ht, hp⟩ := tk_all ts hw
  rw [hL] at ht
  refine x_loadRow hr ht (by omega) hg (fun K' nl' nr' sz' L' R' rt' ds' g' gl gt gv gz => Exists.intro (P + 1) ?_)
  have pl : ∀ j, j ≤ P → tk_pos ts j < Lc.length := fun j hj => by rw [← hL]; exact tk_pos_lt ts j (by omega)
  have h0 : nI N = nI (N + tk_pos ts 0) := by cases ts <;> rfl
  rw [h0]
  refine x_si9 (ts := ts) (M := N + Lc.length) rfl (by omega) hN hf hP2 hpc hlen hL (fun j hj => by rw [gz _ (pl j (by omega)), hp j (by omega)]) (fun el er EL ER hq hr' => ?_) P 0 (P + 1) _ _ (fun _ => 0) (fun _ => 0) (by omega) (by omega) q0_ok (fun r => ⟨fun _ j hj => by omega, fun _ i hi => by omega⟩)
  refine hP (N + Lc.length) (P + 1) _ _ _ _ _ _ L' R' rt' ds' EL ER (by omega) hM (by omega) g' hq ?_
  exact ld_st (q0_ok (el := a_equationLefts) (er := a_equationRights)) hg rfl ht hw hL hlen hp gl gt gv (fun j hj => by omega) (by omega) (fun r => (hr' r).trans ⟨fun h => ⟨fun i hi => by omega, h⟩, fun h => h.2⟩)
/-- a call's operands and itself, made equal to the nodes g 0, g 1 .. -/
theorem x_sc37 {post : SX → Prop} {M f t h P z : Nat} {own : Bool} {sp nd EL0 ER0 : Nat → Nat} {e0 : Nat} (he0 : e0 ≤ 4) (hM2 : M ≤ 1126) (h76 : 76 ≤ M) (hf : f < 11) (hh : h < 11) (ht : t < 24) (hP2 : P ≤ 2) (hpc : a_parameterCounts h = nI P)
    (hown : own = true ↔ h = f) (hc : ∀ j, j < P → jp sp t j < 24 ∧ a_spans (f * 24 + jp sp t j) = nI (sp (jp sp t j)))
    (hnd : ∀ j, j ≤ P → nd j < M) (hnx : ∀ j, j < P → (own = true → nd (j + 1) = nd j + 1) ∧ (own = false → a_nodeSizes (nd j) = nI (nd (j + 1) - nd j) ∧ nd j ≤ nd (j + 1)))
    (hz : z = if own then 0 else nd P)
    (hPo : ∀ el er EL ER, eq_ok M (e0 + P + 1) el er EL ER → (∀ r, eq_all (e0 + P + 1) EL ER r ↔ eq_all e0 EL0 ER0 r ∧ (∀ j, j < P → r (jp sp t j) = r (nd j)) ∧ r t = r z) → post (f_saidPlace, f_instanceCount, f_nodeCount, (nI (e0 + P + 1)), f_stackCount, f_wordCount, f_depth, f_cellCount, f_consCount, f_closureCount, f_stepCount, f_runAnswer, f_writtenCount, a_kinds, a_values, a_spans, a_bounds, a_binders, a_lengths, a_parameterCounts, a_typeCodes, a_typeLengths, a_instanceFunctions, a_nodeKinds, a_nodeLefts, a_nodeRights, a_nodeSizes, el, er, a_stackLefts, a_stackRights, a_words, a_boundWords, a_cellFirsts, a_cellSeconds, a_closureTokens, a_closureWords, a_written)) :
    ∀ q p fu el er EL ER, p + q = P → q < fu → eq_ok M (e0 + p) el er EL ER → (∀ r, eq_all (e0 + p) EL ER r ↔ eq_all e0 EL0 ER0 r ∧ ∀ j, j < p → r (jp sp t j) = r (nd j)) →
      wX_stateCall_37 post (nI f) (nI t) (nI h) fu (nI (nd p)) (nI (jp sp t p)) (nI p) f_saidPlace f_instanceCount f_nodeCount (nI (e0 + p)) f_stackCount f_wordCount f_depth f_cellCount f_consCount f_closureCount f_stepCount f_runAnswer f_writtenCount a_kinds a_values a_spans a_bounds a_binders a_lengths a_parameterCounts a_typeCodes a_typeLengths a_instanceFunctions a_nodeKinds a_nodeLefts a_nodeRights a_nodeSizes el er a_stackLefts a_stackRights a_words a_boundWords a_cellFirsts a_cellSeconds a_closureTokens a_closureWords a_written := by
  intro q
  induction q with
  | zero =>
    intro p fu el er EL ER hp hfu hq hr
    obtain ⟨fu, rfl⟩ : ∃ g, fu = g + 1 := ⟨fu - 1, by omega⟩
    have ep : p = P := by omega
    subst ep
    have hn := hnd p (Nat.le_refl _)
    refine And.intro (pk_in h 11 hh) ?_
    rw [nI_clamp (n := h) (by omega), hpc]
    refine br_t (nI_le (Nat.le_refl _) (by omega)) (pk_eq h f (fun e => ?_) (fun e => ?_))
    · have ho : own = true := hown.mpr e
      rw [ho, if_pos rfl] at hz
      subst hz
      exact x_equate (by omega) (hPo _ _ _ _ (eq_up (b := 0) hq (by omega) (by omega)) (fun r => by rw [eq_upa, hr r, and_assoc]))
    · have ho : own = false := by cases own; rfl; exact absurd (hown.mp rfl) e
      rw [ho, if_neg (by decide)] at hz
      subst hz
      exact x_equate (by omega) (hPo _ _ _ _ (eq_up hq (by omega) (by omega)) (fun r => by rw [eq_upa, hr r, and_assoc]))
  | succ q ih =>
    intro p fu el er EL ER hp hfu hq hr
    obtain ⟨fu, rfl⟩ : ∃ g, fu = g + 1 := ⟨fu - 1, by omega⟩
    have hn := hnd p (by omega)
    have hn1 := hnd (p + 1) (by omega)
    obtain ⟨c1, c2⟩ := hc p (by omega)
    refine And.intro (pk_in h 11 hh) ?_
    rw [nI_clamp (n := h) (by omega), hpc]
    refine br_f (nI_ge (by omega) (by omega)) (x_equate (by omega) (And.intro (pk_in (f * 24 + jp sp t p) 264 (by omega) (ix_24 _ _)) (nm_r (e' := nI (jp sp t (p + 1))) (by rw [ix_24, nI_clamp (by omega), c2, nI_add]; rfl) ?_)))
    have go := ih (p + 1) fu _ _ _ _ (by omega) (by omega) (eq_up hq (show jp sp t p < M by omega) hn) (fun r => by
      show eq_all (e0 + p + 1) (updN EL (e0 + p) (jp sp t p)) (updN ER (e0 + p) (nd p)) r ↔ _
      rw [eq_upa, hr r]
      constructor
      · rintro ⟨⟨a0, a⟩, b⟩
        refine ⟨a0, fun j hj => ?_⟩
        by_cases z : j = p
        · subst z; exact b
        · exact a j (by omega)
      · rintro ⟨a0, h⟩; exact ⟨⟨a0, fun j hj => h j (by omega)⟩, h p (by omega)⟩)
    refine pk_eq h f (fun e => ?_) (fun e => ?_)
    · have ho : own = true := hown.mpr e
      refine nm_r (e' := nI (nd (p + 1))) (by rw [nI_1, (hnx p (by omega)).1 ho]) (nm_r (nI_1 p) go)
    · have ho : own = false := by cases own; rfl; exact absurd (hown.mp rfl) e
      obtain ⟨s1, s2⟩ := (hnx p (by omega)).2 ho
      refine And.intro (pk_in (nd p) 1126 (by omega)) (nm_r (e' := nI (nd (p + 1))) ?_ (nm_r (nI_1 p) go))
      rw [nI_clamp (by omega), s1, nI_add]; exact congrArg nI (by omega)
theorem x_stateCall {post : SX → Prop} {N M f n t h P w : Nat} {own : Bool} {Lc : List Nat} {ts : List mt_T} {sp L R rt ds EL0 ER0 : Nat → Nat} {e0 : Nat} (he0 : e0 ≤ 4) (hq0 : eq_ok N e0 a_equationLefts a_equationRights EL0 ER0) (hN : 76 ≤ N) (hM : own = false → N + Lc.length ≤ M) (hNM : N ≤ M) (hM2 : M ≤ 1126) (hf : f < 5) (hh : h < 5) (hn : n ≤ 24) (ht : t < n) (hP2 : P ≤ 2) (hpc : a_parameterCounts h = nI P)
    (hval : a_values (f * 24 + t) = nI h) (hown : own = true ↔ h = f) (hc : ∀ j, j < P → jp sp t j < 24 ∧ a_spans (f * 24 + jp sp t j) = nI (sp (jp sp t j)))
    (hr : own = false → rw_ok h a_typeCodes a_typeLengths Lc ∧ (∀ t ∈ ts, mt_wf t) ∧ mt_encs ts = Lc ∧ ts.length = P + 1) (hg : xg_ok N a_nodeKinds a_nodeLefts a_nodeRights L R rt ds)
    (hP : xs_post post N M f_saidPlace f_instanceCount (nI N) (nI e0) f_stackCount f_wordCount f_depth f_cellCount f_consCount f_closureCount f_stepCount f_runAnswer f_writtenCount a_kinds a_values a_spans a_bounds a_binders a_lengths a_parameterCounts a_typeCodes a_typeLengths a_instanceFunctions a_nodeKinds a_nodeLefts a_nodeRights a_nodeSizes a_equationLefts a_equationRights a_stackLefts a_stackRights a_words a_boundWords a_cellFirsts a_cellSeconds a_closureTokens a_closureWords a_written e0 L R EL0 ER0 (ru_k 4 t (jp sp t) w own P Lc)) :
    wpX_stateCall post (f_saidPlace, f_instanceCount, (nI N), (nI e0), f_stackCount, f_wordCount, f_depth, f_cellCount, f_consCount, f_closureCount, f_stepCount, f_runAnswer, f_writtenCount, a_kinds, a_values, a_spans, a_bounds, a_binders, a_lengths, a_parameterCounts, a_typeCodes, a_typeLengths, a_instanceFunctions, a_nodeKinds, a_nodeLefts, a_nodeRights, a_nodeSizes, a_equationLefts, a_equationRights, a_stackLefts, a_stackRights, a_words, a_boundWords, a_cellFirsts, a_cellSeconds, a_closureTokens, a_closureWords, a_written) (nI f) (nI t) := by
  have hcx : (nI f * 24 + nI t).toNatClampNeg = f * 24 + t := by rw [ix_24]; exact nI_clamp (by omega)
  refine And.intro (pk_in (f * 24 + t) 264 (by omega) (ix_24 f t)) (nm_r (e' := nI h) (by rw [hcx]; exact hval) (pk_eq h f (fun e => ?_) (fun e => ?_)))
  · have ho : own = true := hown.mpr e
    subst ho
    refine nm_r (nI_1 t) (Exists.intro (P + 1) ?_)
    refine x_sc37 (e0 := e0) (EL0 := EL0) (ER0 := ER0) he0 (z := 0) (own := true) (M := N) (sp := sp) (nd := fun j => 72 + j) (by omega) hN (by omega) (by omega) (by omega) hP2 hpc hown hc (fun j hj => by omega) (fun j hj => ⟨fun _ => rfl, fun z => absurd z (by decide)⟩) rfl (fun el er EL ER hq hr' => ?_) P 0 (P + 1) _ _ EL0 ER0 (by omega) (by omega) (eq_mono hq0 (by omega)) (fun r => ⟨fun h => ⟨h, fun j hj => by omega⟩, fun h => h.1⟩)
    refine hP N (e0 + P + 1) _ _ _ _ _ _ L R rt ds EL ER (Nat.le_refl _) hNM (by omega) hg hq ?_
    refine ⟨fun r hwf h1 h2 => ⟨⟨h1, ((hr' r).mp h2).1⟩, ?_⟩, fun r hwf h1 h2 => ⟨r, hwf, fun _ _ => rfl, h1.1, ?_⟩⟩
    · exact ((hr' r).mp h2).2
    · exact (hr' r).mpr ⟨h1.2, h2⟩
  · have ho : own = false := by cases own; rfl; exact absurd (hown.mp rfl) e
    subst ho
    have hM := hM rfl
    obtain ⟨hr1, hw, hL, hlen⟩ := hr rfl
    obtain ⟨tau, htk, hp⟩ := tk_all ts hw
    rw [hL] at htk
    refine x_loadRow hr1 htk (by omega) hg (fun K' nl' nr' sz' L' R' rt' ds' g' gl gt gv gz => nm_r (nI_1 t) (Exists.intro (P + 1) ?_))
    have pl : ∀ j, j ≤ P → tk_pos ts j < Lc.length := fun j hj => by rw [← hL]; exact tk_pos_lt ts j (by omega)
    have h0 : nI N = nI (N + tk_pos ts 0) := by cases ts <;> rfl
    rw [h0]
    refine x_sc37 (e0 := e0) (EL0 := EL0) (ER0 := ER0) he0 (z := N + tk_pos ts P) (own := false) (M := N + Lc.length) (sp := sp) (nd := fun j => N + tk_pos ts j) (by omega) (by omega) (by omega) (by omega) (by omega) hP2 hpc hown hc (fun j hj => by have := pl j hj; omega) (fun j hj => ⟨fun z => absurd z (by decide), fun _ => ?_⟩) rfl (fun el er EL ER hq hr' => ?_) P 0 (P + 1) _ _ EL0 ER0 (by omega) (by omega) (eq_mono hq0 (by omega)) (fun r => ⟨fun h => ⟨h, fun j hj => by omega⟩, fun h => h.1⟩)
    · have hs := tk_pos_s ts j (by omega)
      refine ⟨?_, by omega⟩
      rw [gz _ (pl j (by omega)), hp j (by omega)]; exact congrArg nI (by omega)
    · refine hP (N + Lc.length) (e0 + P + 1) _ _ _ _ _ _ L' R' rt' ds' EL ER (by omega) hM (by omega) g' hq ?_
      exact ld_st hq0 hg rfl htk hw hL hlen hp gl gt gv (fun j hj => by have := (hc j hj).1; omega) (by omega) hr'

variable {f_saidPlace f_instanceCount f_nodeCount f_equationCount f_stackCount f_wordCount f_depth f_cellCount f_consCount f_closureCount f_stepCount f_runAnswer f_writtenCount : Int32} {a_kinds a_values a_spans a_bounds a_binders a_lengths a_parameterCounts a_typeCodes a_typeLengths a_instanceFunctions a_nodeKinds a_nodeLefts a_nodeRights a_nodeSizes a_equationLefts a_equationRights a_stackLefts a_stackRights a_words a_boundWords a_cellFirsts a_cellSeconds a_closureTokens a_closureWords a_written : Nat → Int32}
/-- the nodes while types are written: variables' lefts hold their numbers -/
def xw_ok (N : Nat) (K nl nr : Nat → Int32) (L R rt ds : Nat → Nat) (D : Nat) : Prop :=
  (∀ n, n < N → gr_kd (K n) ∧ (K n = 5 ∨ gr_lf (K n) → nl n = nI (L n) ∧ L n < N) ∧ (gr_rg (K n) → nr n = nI (R n) ∧ R n < N)) ∧ fo_is N K L rt ds D
theorem xw_of {N : Nat} {K nl nr : Nat → Int32} {L R rt ds : Nat → Nat} (h : xg_ok N K nl nr L R rt ds) : xw_ok N K nl nr L R rt ds (lk_ct K N) :=
  ⟨fun n hn => ⟨(h.1 n hn).1, (h.1 n hn).2.1, (h.1 n hn).2.2.1⟩, h.2⟩
theorem xw_up {N : Nat} {K nl nr : Nat → Int32} {L R rt ds : Nat → Nat} {D x : Nat} {v : Int32} (h : xw_ok N K nl nr L R rt ds D) (hx : K x = 10) : xw_ok N K (upd nl x v) nr L R rt ds D := by
  refine ⟨fun n hn => ?_, h.2⟩
  obtain ⟨a, b, c⟩ := h.1 n hn
  refine ⟨a, fun q => ?_, c⟩
  rw [pk_un (by intro z; subst z; rw [hx] at q; rcases q with q | q; exact absurd q (by decide); exact absurd q nlf10)]; exact b q
theorem x_rootw4 {post : Int32 → Prop} {N D : Nat} {L R rt ds : Nat → Nat} (hN : N ≤ 1126) (hg : xw_ok N a_nodeKinds a_nodeLefts a_nodeRights L R rt ds D) :
    ∀ d n i f, n < N → ds n = d → i + d ≤ 1126 → d < f → post (nI (rt n)) → wX_rootOf_4 post f_saidPlace f_instanceCount f_nodeCount f_equationCount f_stackCount f_wordCount f_depth f_cellCount f_consCount f_closureCount f_stepCount f_runAnswer f_writtenCount a_kinds a_values a_spans a_bounds a_binders a_lengths a_parameterCounts a_typeCodes a_typeLengths a_instanceFunctions a_nodeKinds a_nodeLefts a_nodeRights a_nodeSizes a_equationLefts a_equationRights a_stackLefts a_stackRights a_words a_boundWords a_cellFirsts a_cellSeconds a_closureTokens a_closureWords a_written f (nI n) (nI i) := by
  intro d
  induction d with
  | zero =>
    intro n i f hn hd hi hf hp
    obtain ⟨f, rfl⟩ : ∃ g, f = g + 1 := ⟨f - 1, by omega⟩
    have hk : ¬ a_nodeKinds n = 5 := by intro z; have := ((hg.2 n hn).2.2.2.1 z).2.2; omega
    have hr := ((hg.2 n hn).2.2.1 hk).1
    rw [hr] at hp
    refine pk_le 1126 i (fun _ => hp) (fun h => And.intro (pk_in n 1126 (by omega)) ?_)
    rw [nI_clamp (n := n) (by omega)]
    exact br_f hk hp
  | succ d ih =>
    intro n i f hn hd hi hf hp
    obtain ⟨f, rfl⟩ : ∃ g, f = g + 1 := ⟨f - 1, by omega⟩
    have hk : a_nodeKinds n = 5 := Classical.byContradiction (fun z => by have := ((hg.2 n hn).2.2.1 z).2; omega)
    obtain ⟨e1, e2, e3⟩ := (hg.2 n hn).2.2.2.1 hk
    have el := ((hg.1 n hn).2.1 (Or.inl hk)).1
    refine pk_le 1126 i (fun h => by omega) (fun h => And.intro (pk_in n 1126 (by omega)) ?_)
    rw [nI_clamp (n := n) (by omega)]
    refine br_t hk (And.intro (pk_in n 1126 (by omega)) (nm_r el (nm_r (nI_1 i) ?_)))
    exact ih (L n) (i + 1) f e1 (by omega) (by omega) (by omega) (by rw [e2]; exact hp)
theorem x_rootw {post : Int32 → Prop} {N D : Nat} {L R rt ds : Nat → Nat} (hN : N ≤ 1126) (hD : D ≤ 1126) (hg : xw_ok N a_nodeKinds a_nodeLefts a_nodeRights L R rt ds D) {n : Nat} (hn : n < N)
    (hp : post (nI (rt n))) : wpX_rootOf post (f_saidPlace, f_instanceCount, f_nodeCount, f_equationCount, f_stackCount, f_wordCount, f_depth, f_cellCount, f_consCount, f_closureCount, f_stepCount, f_runAnswer, f_writtenCount, a_kinds, a_values, a_spans, a_bounds, a_binders, a_lengths, a_parameterCounts, a_typeCodes, a_typeLengths, a_instanceFunctions, a_nodeKinds, a_nodeLefts, a_nodeRights, a_nodeSizes, a_equationLefts, a_equationRights, a_stackLefts, a_stackRights, a_words, a_boundWords, a_cellFirsts, a_cellSeconds, a_closureTokens, a_closureWords, a_written) (nI n) := by
  have h1 := (hg.2 n hn).2.2.2.2
  exact Exists.intro (ds n + 1) (x_rootw4 hN hg (ds n) n 0 _ hn rfl (by omega) (by omega) hp)
/-- a stack of nodes, the top first -/
def sk_ok (N h : Nat) (sl : Nat → Int32) (st : List Nat) : Prop := st.length = h ∧ (∀ n ∈ st, n < N) ∧ ∀ i, i < h → sl i = nI (st.getD (h - 1 - i) 0)
theorem sk_push {N h n : Nat} {sl : Nat → Int32} {st : List Nat} (hs : sk_ok N h sl st) (hn : n < N) : sk_ok N (h + 1) (upd sl h (nI n)) (n :: st) := by
  obtain ⟨a, b, c⟩ := hs
  refine ⟨by simp [a], fun m hm => ?_, fun i hi => ?_⟩
  · simp only [List.mem_cons] at hm
    rcases hm with rfl | hm
    · exact hn
    · exact b m hm
  · by_cases z : i = h
    · subst z
      rw [pk_us]
      have : i + 1 - 1 - i = 0 := by omega
      rw [this]; rfl
    · rw [pk_un z, c i (by omega)]
      have : h + 1 - 1 - i = (h - 1 - i) + 1 := by omega
      rw [this, List.getD_cons_succ]
theorem sk_pop {N h n : Nat} {sl : Nat → Int32} {st : List Nat} (hs : sk_ok N (h + 1) sl (n :: st)) : sl h = nI n ∧ n < N ∧ sk_ok N h sl st := by
  obtain ⟨a, b, c⟩ := hs
  refine ⟨?_, b n (by simp), by simpa using a, fun m hm => b m (by simp [hm]), fun i hi => ?_⟩
  · have := c h (by omega)
    have e : h + 1 - 1 - h = 0 := by omega
    rw [e] at this; exact this
  · rw [c i (by omega)]
    have : h + 1 - 1 - i = (h - 1 - i) + 1 := by omega
    rw [this, List.getD_cons_succ]
theorem dr_s {L : List Nat} : ∀ {k a : Nat} {l : List Nat}, L.drop k = a :: l → L.getD k 0 = a ∧ L.drop (k + 1) = l ∧ k < L.length := by
  induction L with
  | nil => intro k a l h; simp at h
  | cons x L ih =>
    intro k a l h
    cases k with
    | zero =>
      simp only [List.drop_zero, List.cons.injEq] at h
      exact ⟨h.1, by simpa using h.2, by simp⟩
    | succ k =>
      rw [List.drop_succ_cons] at h
      obtain ⟨p, q, r⟩ := ih h
      exact ⟨by rw [List.getD_cons_succ]; exact p, by rw [List.drop_succ_cons]; exact q, by simp only [List.length_cons]; omega⟩
/-- variables numbered, or all of them INT -/
def wr_f (cl : Bool) (vs cs : List Nat) : List Nat := if cl then cl_0 cs else cn_go vs cs
/-- numbers of the variables that were seen -/
def nu_ok (N : Nat) (K nl : Nat → Int32) (vs : List Nat) : Prop := ∀ n, n < N → K n = 10 → (10 + n ∈ vs → nl n = nI (cn_ix (10 + n) vs)) ∧ (¬ 10 + n ∈ vs → nl n = -1)
theorem nu_new {N : Nat} {K nl : Nat → Int32} {vs : List Nat} {x : Nat} (h : nu_ok N K nl vs) (hx : ¬ 10 + x ∈ vs) : nu_ok N K (upd nl x (nI vs.length)) (vs ++ [10 + x]) := by
  intro n hn hk
  by_cases z : n = x
  · subst z
    rw [pk_us]
    refine ⟨fun _ => ?_, fun q => absurd (by simp) q⟩
    rw [cn_ix_new vs [] hx]
  · rw [pk_un z]
    refine ⟨fun q => ?_, fun q => (h n hn hk).2 (fun w => q (by simp [w]))⟩
    have hm : 10 + n ∈ vs := by
      simp only [List.mem_append, List.mem_singleton] at q
      rcases q with q | q
      · exact q
      · omega
    rw [cn_ix_app vs _ hm]; exact (h n hn hk).1 hm
theorem mt_encs_len {ts : List mt_T} : ts.length ≤ (mt_encs ts).length := by
  induction ts with
  | nil => simp
  | cons t ts ih => have := mt_enc_ne t; simp only [mt_encs, List.length_cons, List.length_append]; omega
theorem x_push {post : SX → Prop} {p0 p1 : Int32} {h : Nat} (hh : h < 525) (hp : post (f_saidPlace, f_instanceCount, f_nodeCount, f_equationCount, (nI (h + 1)), f_wordCount, f_depth, f_cellCount, f_consCount, f_closureCount, f_stepCount, f_runAnswer, f_writtenCount, a_kinds, a_values, a_spans, a_bounds, a_binders, a_lengths, a_parameterCounts, a_typeCodes, a_typeLengths, a_instanceFunctions, a_nodeKinds, a_nodeLefts, a_nodeRights, a_nodeSizes, a_equationLefts, a_equationRights, (upd a_stackLefts h p0), (upd a_stackRights h p1), a_words, a_boundWords, a_cellFirsts, a_cellSeconds, a_closureTokens, a_closureWords, a_written)) : wpX_push post (f_saidPlace, f_instanceCount, f_nodeCount, f_equationCount, (nI h), f_wordCount, f_depth, f_cellCount, f_consCount, f_closureCount, f_stepCount, f_runAnswer, f_writtenCount, a_kinds, a_values, a_spans, a_bounds, a_binders, a_lengths, a_parameterCounts, a_typeCodes, a_typeLengths, a_instanceFunctions, a_nodeKinds, a_nodeLefts, a_nodeRights, a_nodeSizes, a_equationLefts, a_equationRights, a_stackLefts, a_stackRights, a_words, a_boundWords, a_cellFirsts, a_cellSeconds, a_closureTokens, a_closureWords, a_written) p0 p1 :=
  And.intro (pk_in h 525 hh) (nm_r (e' := upd a_stackLefts h p0) (by rw [nI_clamp (by omega)]) (And.intro (pk_in h 525 hh) (nm_r (e' := upd a_stackRights h p1) (by rw [nI_clamp (by omega)]) (nm_r (nI_1 h) hp))))
theorem x_wr8 {post : SX → Prop} {row N D : Nat} {cl : Bool} {x2 : Int32} {L R rt ds : Nat → Nat} {c : Nat → mt_T} {OUT : List Nat} (hrow : row < 18) (hN : N ≤ 1126) (hD : D ≤ 1126) (hx2 : x2 = if cl then 1 else 0) (hO : OUT.length ≤ 42) (hO2 : ∀ k, k < OUT.length → OUT.getD k 0 < 100)
    (hc : ∀ n, n < N → c n = c (rt n)) (hcr : ∀ n, n < N → a_nodeKinds n ≠ 5 → (a_nodeKinds n = 10 → c n = .leaf (10 + n)) ∧ (a_nodeKinds n ≠ 10 → c n = gr_at a_nodeKinds L R c n))
    (hP : ∀ nl sl sr tc, (cl = true → nl = a_nodeLefts) → (∀ j, j < row * 42 ∨ row * 42 + 42 ≤ j → tc j = a_typeCodes j) → (∀ i, i < OUT.length → tc (row * 42 + i) = nI (OUT.getD i 0)) →
      post (f_saidPlace, f_instanceCount, f_nodeCount, f_equationCount, (nI 0), f_wordCount, f_depth, f_cellCount, f_consCount, f_closureCount, f_stepCount, f_runAnswer, f_writtenCount, a_kinds, a_values, a_spans, a_bounds, a_binders, a_lengths, a_parameterCounts, tc, (upd a_typeLengths row (nI OUT.length)), a_instanceFunctions, a_nodeKinds, nl, a_nodeRights, a_nodeSizes, a_equationLefts, a_equationRights, sl, sr, a_words, a_boundWords, a_cellFirsts, a_cellSeconds, a_closureTokens, a_closureWords, a_written)) :
    ∀ q fu k h st vs nl sl sr tc, (mt_encs (st.map c)).length ≤ q → q < fu → OUT.drop k = wr_f cl vs (mt_encs (st.map c)) → k ≤ OUT.length → sk_ok N h sl st → xw_ok N a_nodeKinds nl a_nodeRights L R rt ds D → ((cl = false → nu_ok N a_nodeKinds nl vs) ∧ (cl = true → nl = a_nodeLefts)) → vs.length ≤ k →
      (∀ j, j < row * 42 ∨ row * 42 + 42 ≤ j → tc j = a_typeCodes j) → (∀ i, i < k → tc (row * 42 + i) = nI (OUT.getD i 0)) →
      wX_writeRow_8 post (nI row) x2 fu (nI vs.length) (nI k) (nI k) f_saidPlace f_instanceCount f_nodeCount f_equationCount (nI h) f_wordCount f_depth f_cellCount f_consCount f_closureCount f_stepCount f_runAnswer f_writtenCount a_kinds a_values a_spans a_bounds a_binders a_lengths a_parameterCounts tc a_typeLengths a_instanceFunctions a_nodeKinds nl a_nodeRights a_nodeSizes a_equationLefts a_equationRights sl sr a_words a_boundWords a_cellFirsts a_cellSeconds a_closureTokens a_closureWords a_written := by
  have drl : ∀ k, k ≤ OUT.length → OUT.drop k = [] → k = OUT.length := by
    intro k hk h
    have := congrArg List.length h
    simp only [List.length_drop, List.length_nil] at this
    omega
  intro q
  induction q with
  | zero =>
    intro fu k h st vs nl sl sr tc hq hfu hdr hk hs hg hn hv ht1 ht2
    obtain ⟨fu, rfl⟩ : ∃ g, fu = g + 1 := ⟨fu - 1, by omega⟩
    have hst : st = [] := by
      have h1 := mt_encs_len (ts := st.map c)
      rw [List.length_map] at h1
      exact List.length_eq_zero_iff.mp (by omega)
    subst hst
    have h0 : h = 0 := hs.1.symm
    subst h0
    have ek : k = OUT.length := drl k hk (by rw [hdr]; unfold wr_f; cases cl <;> rfl)
    have fin : vp_in (nI row) 18 ∧ ∀ y, y = upd a_typeLengths (nI row).toNatClampNeg (nI k) → post (f_saidPlace, f_instanceCount, f_nodeCount, f_equationCount, (nI 0), f_wordCount, f_depth, f_cellCount, f_consCount, f_closureCount, f_stepCount, f_runAnswer, f_writtenCount, a_kinds, a_values, a_spans, a_bounds, a_binders, a_lengths, a_parameterCounts, tc, y, a_instanceFunctions, a_nodeKinds, nl, a_nodeRights, a_nodeSizes, a_equationLefts, a_equationRights, sl, sr, a_words, a_boundWords, a_cellFirsts, a_cellSeconds, a_closureTokens, a_closureWords, a_written) := by
      refine And.intro (pk_in row 18 hrow) (nm_r (e' := upd a_typeLengths row (nI OUT.length)) (by rw [nI_clamp (by omega), ek]) ?_)
      exact hP nl sl sr tc hn.2 ht1 (fun i hi => ht2 i (by omega))
    exact pk_le 42 k (fun _ => fin) (fun _ => br_t (by decide) fin)
  | succ q ih =>
    intro fu k h st vs nl sl sr tc hq hfu hdr hk hs hg hn hv ht1 ht2
    obtain ⟨fu, rfl⟩ : ∃ g, fu = g + 1 := ⟨fu - 1, by omega⟩
    cases st with
    | nil =>
      have h0 : h = 0 := hs.1.symm
      subst h0
      have ek : k = OUT.length := drl k hk (by rw [hdr]; unfold wr_f; cases cl <;> rfl)
      have fin : vp_in (nI row) 18 ∧ ∀ y, y = upd a_typeLengths (nI row).toNatClampNeg (nI k) → post (f_saidPlace, f_instanceCount, f_nodeCount, f_equationCount, (nI 0), f_wordCount, f_depth, f_cellCount, f_consCount, f_closureCount, f_stepCount, f_runAnswer, f_writtenCount, a_kinds, a_values, a_spans, a_bounds, a_binders, a_lengths, a_parameterCounts, tc, y, a_instanceFunctions, a_nodeKinds, nl, a_nodeRights, a_nodeSizes, a_equationLefts, a_equationRights, sl, sr, a_words, a_boundWords, a_cellFirsts, a_cellSeconds, a_closureTokens, a_closureWords, a_written) := by
        refine And.intro (pk_in row 18 hrow) (nm_r (e' := upd a_typeLengths row (nI OUT.length)) (by rw [nI_clamp (by omega), ek]) ?_)
        exact hP nl sl sr tc hn.2 ht1 (fun i hi => ht2 i (by omega))
      exact pk_le 42 k (fun _ => fin) (fun _ => br_t (by decide) fin)
    | cons n0 st =>
      obtain ⟨h, rfl⟩ : ∃ g, h = g + 1 := ⟨h - 1, by have := hs.1; simp only [List.length_cons] at this; omega⟩
      obtain ⟨s1, s2, s3⟩ := sk_pop hs
      obtain ⟨x1, x2', _, _, _⟩ := hg.2 n0 s2
      have hcn := hc n0 s2
      obtain ⟨kd, kl, kr⟩ := hg.1 (rt n0) x1
      obtain ⟨cv, cc⟩ := hcr (rt n0) x1 x2'
      have hlen := mt_encs_len (ts := st.map c)
      rw [List.length_map, s3.1] at hlen
      have hq' : (mt_enc (c (rt n0))).length + (mt_encs (st.map c)).length ≤ q + 1 := by
        rw [← hcn]; simpa only [List.map_cons, mt_encs, List.length_append] using hq
      have hdr' : OUT.drop k = wr_f cl vs (mt_enc (c (rt n0)) ++ mt_encs (st.map c)) := by rw [hdr, List.map_cons, mt_encs, hcn]
      have htot : (mt_enc (c (rt n0)) ++ mt_encs (st.map c)).length + k ≤ 42 := by
        have e := congrArg List.length hdr'
        have el : (wr_f cl vs (mt_enc (c (rt n0)) ++ mt_encs (st.map c))).length = (mt_enc (c (rt n0)) ++ mt_encs (st.map c)).length := by
          unfold wr_f
          cases cl
          · rw [if_neg (by decide), cn_go_map, List.length_map]
          · rw [if_pos rfl, cl_0, List.length_map]
        rw [List.length_drop, el] at e
        omega
      rw [List.length_append] at htot
      have hx0 := mt_enc_ne (c (rt n0))
      generalize hx : rt n0 = x at *
      have cx : (nI x).toNatClampNeg = x := nI_clamp (by omega)
      refine pk_le 42 k (fun z => by omega) (fun z => br_f (nI_nle (by omega) (by omega)) (nm_r (nI_pred h) (And.intro (pk_in h 525 (by omega)) ?_)))
      rw [nI_clamp (n := h) (by omega), s1]
      refine x_rootw hN hD hg s2 ?_
      rw [hx]
      refine And.intro (pk_in x 1126 (by omega)) (nm_r (e' := a_nodeKinds x) (by rw [cx]) ?_)
      have fin : ∀ (code : Nat) (nl1 : Nat → Int32) (vs1 : List Nat) (h1 : Nat) (st1 : List Nat) (sl1 sr1 : Nat → Int32), OUT.getD k 0 = code → vs1.length ≤ k + 1 → xw_ok N a_nodeKinds nl1 a_nodeRights L R rt ds D → ((cl = false → nu_ok N a_nodeKinds nl1 vs1) ∧ (cl = true → nl1 = a_nodeLefts)) →
          OUT.drop (k + 1) = wr_f cl vs1 (mt_encs (st1.map c)) → k < OUT.length → (mt_encs (st1.map c)).length ≤ q → sk_ok N h1 sl1 st1 →
          wX_writeRow_158 post (wX_writeRow_8 post (nI row) x2 fu) (nI row) x2 (nI vs1.length) (nI k) (nI code) f_saidPlace f_instanceCount f_nodeCount f_equationCount (nI h1) f_wordCount f_depth f_cellCount f_consCount f_closureCount f_stepCount f_runAnswer f_writtenCount a_kinds a_values a_spans a_bounds a_binders a_lengths a_parameterCounts tc a_typeLengths a_instanceFunctions a_nodeKinds nl1 a_nodeRights a_nodeSizes a_equationLefts a_equationRights sl1 sr1 a_words a_boundWords a_cellFirsts a_cellSeconds a_closureTokens a_closureWords a_written := by
        intro code nl1 vs1 h1 st1 sl1 sr1 f1 f3 f4 f5 f6 f7 f8 f9
        refine And.intro (pk_in (row * 42 + k) 756 (by omega) (ix_42 row k)) (nm_r (e' := upd tc (row * 42 + k) (nI code)) (by rw [ix_42, nI_clamp (by omega)]) (nm_r (nI_1 k) (nm_r (nI_1 k) ?_)))
        refine ih fu (k + 1) h1 st1 vs1 nl1 sl1 sr1 _ f8 (by omega) f6 (by omega) f9 f4 f5 f3 (fun j hj => ?_) (fun i hi => ?_)
        · rw [pk_un (by omega)]; exact ht1 j hj
        · by_cases z : i = k
          · subst z; rw [pk_us, f1]
          · rw [pk_un (by omega)]; exact ht2 i (by omega)
      have tail : ∀ (code : Nat) (nl1 : Nat → Int32) (vs1 st1 : List Nat), OUT.getD k 0 = code → vs1.length ≤ k + 1 → xw_ok N a_nodeKinds nl1 a_nodeRights L R rt ds D → ((cl = false → nu_ok N a_nodeKinds nl1 vs1) ∧ (cl = true → nl1 = a_nodeLefts)) →
          OUT.drop (k + 1) = wr_f cl vs1 (mt_encs (st1.map c)) → k < OUT.length → (mt_encs (st1.map c)).length ≤ q →
          ((gr_rg (a_nodeKinds x) ∧ st1 = L x :: R x :: st) ∨ (¬ gr_rg (a_nodeKinds x) ∧ gr_lf (a_nodeKinds x) ∧ st1 = L x :: st) ∨ (¬ gr_lf (a_nodeKinds x) ∧ st1 = st)) →
          wX_writeRow_116 post (wX_writeRow_8 post (nI row) x2 fu) (nI row) x2 (nI vs1.length) (nI k) (nI x) (a_nodeKinds x) (nI code) f_saidPlace f_instanceCount f_nodeCount f_equationCount (nI h) f_wordCount f_depth f_cellCount f_consCount f_closureCount f_stepCount f_runAnswer f_writtenCount a_kinds a_values a_spans a_bounds a_binders a_lengths a_parameterCounts tc a_typeLengths a_instanceFunctions a_nodeKinds nl1 a_nodeRights a_nodeSizes a_equationLefts a_equationRights sl sr a_words a_boundWords a_cellFirsts a_cellSeconds a_closureTokens a_closureWords a_written := by
        intro code nl1 vs1 st1 f1 f3 f4 f5 f6 f7 f8 f9
        obtain ⟨_, kl', kr'⟩ := f4.1 x x1
        rcases f9 with ⟨hr, e⟩ | ⟨hr, hl, e⟩ | ⟨hl, e⟩
        · obtain ⟨r1, r2⟩ := kr' hr
          obtain ⟨l1, l2⟩ := kl' (Or.inr (Or.inr hr))
          subst e
          refine x_hasRight (fun _ => br_f n1_0 (And.intro (pk_in x 1126 (by omega)) ?_)) (fun z => absurd hr z)
          rw [cx, r1]
          refine x_push (by omega) (x_hasLeft (fun _ => br_f n1_0 (And.intro (pk_in x 1126 (by omega)) ?_)) (fun z => absurd (Or.inr hr) z))
          rw [cx, l1]
          exact x_push (by omega) (fin code nl1 vs1 (h + 1 + 1) _ _ _ f1 f3 f4 f5 f6 f7 f8 (sk_push (sk_push s3 r2) l2))
        · obtain ⟨l1, l2⟩ := kl' (Or.inr hl)
          subst e
          refine x_hasRight (fun z => absurd z hr) (fun _ => br_t rfl (x_hasLeft (fun _ => br_f n1_0 (And.intro (pk_in x 1126 (by omega)) ?_)) (fun z => absurd hl z)))
          rw [cx, l1]
          exact x_push (by omega) (fin code nl1 vs1 (h + 1) _ _ _ f1 f3 f4 f5 f6 f7 f8 (sk_push s3 l2))
        · subst e
          refine x_hasRight (fun z => absurd (Or.inr z) hl) (fun _ => br_t rfl (x_hasLeft (fun z => absurd z hl) (fun _ => br_t rfl ?_)))
          exact fin code nl1 vs1 h _ _ _ f1 f3 f4 f5 f6 f7 f8 s3
      by_cases v10 : a_nodeKinds x = 10
      · have ec := cv v10
        rw [ec] at hdr' hq'
        have hl : ¬ gr_lf (a_nodeKinds x) := by rw [v10]; exact nlf10
        simp only [mt_enc, List.cons_append, List.nil_append, List.length_cons, List.length_nil] at hdr' hq'
        cases cl with
        | true =>
          subst hx2
          have e : wr_f true vs ((10 + x) :: mt_encs (st.map c)) = 0 :: wr_f true vs (mt_encs (st.map c)) := by
            simp only [wr_f, if_true, cl_0, List.map_cons, mt_rn, if_neg (show ¬ 10 + x < 10 by omega)]
          rw [e] at hdr'
          obtain ⟨d1, d2, d3⟩ := dr_s hdr'
          refine br_f (by decide) (br_t v10 (br_f (by decide) ?_))
          exact tail 0 nl vs st d1 (by omega) hg hn d2 d3 (by omega) (Or.inr (Or.inr ⟨hl, rfl⟩))
        | false =>
          subst hx2
          have hnm := hn.1 rfl x x1 v10
          refine br_t rfl (br_t v10 (And.intro (pk_in x 1126 (by omega)) ?_))
          rw [cx]
          by_cases hm : 10 + x ∈ vs
          · have e : wr_f false vs ((10 + x) :: mt_encs (st.map c)) = (10 + cn_ix (10 + x) vs) :: wr_f false vs (mt_encs (st.map c)) := by
              simp only [wr_f, cn_go, if_neg (show ¬ 10 + x < 10 by omega), if_pos hm]; rfl
            rw [e] at hdr'
            obtain ⟨d1, d2, d3⟩ := dr_s hdr'
            have hix := cn_ix_lt vs hm
            refine br_f (by rw [hnm.1 hm]; exact ni_ne1 (by omega)) (And.intro (pk_in x 1126 (by omega)) (nm_r (e' := nI (10 + cn_ix (10 + x) vs)) (by rw [cx, hnm.1 hm]; exact nI_add 10 _) ?_))
            exact tail _ nl vs st d1 (by omega) hg hn d2 d3 (by omega) (Or.inr (Or.inr ⟨hl, rfl⟩))
          · have e : wr_f false vs ((10 + x) :: mt_encs (st.map c)) = (10 + vs.length) :: wr_f false (vs ++ [10 + x]) (mt_encs (st.map c)) := by
              simp only [wr_f, cn_go, if_neg (show ¬ 10 + x < 10 by omega), if_neg hm]; rfl
            rw [e] at hdr'
            obtain ⟨d1, d2, d3⟩ := dr_s hdr'
            have hvl : (vs ++ [10 + x]).length = vs.length + 1 := by simp
            refine br_t (hnm.2 hm) (And.intro (pk_in x 1126 (by omega)) (nm_e (nm_r (e' := nI (vs ++ [10 + x]).length) (by rw [hvl, nI_1]) (And.intro (pk_in x 1126 (by omega)) (nm_r (e' := nI (10 + vs.length)) (by rw [cx, pk_us]; exact nI_add 10 _) ?_)))))
            exact tail _ _ (vs ++ [10 + x]) st d1 (by rw [hvl]; omega) (xw_up hg v10) ⟨fun _ => nu_new (hn.1 rfl) hm, (by intro z; cases z)⟩ d2 d3 (by omega) (Or.inr (Or.inr ⟨hl, rfl⟩))
      · have ec := cc v10
        have wrc : ∀ (d : Nat) (cs : List Nat), d < 10 → wr_f cl vs (d :: cs) = d :: wr_f cl vs cs := by
          intro d cs hd
          unfold wr_f
          cases cl
          · simp only [cn_go, if_pos hd]; rfl
          · simp only [cl_0, if_true, List.map_cons, mt_rn, if_pos hd]
        have go : ∀ (d : Nat) (st1 : List Nat), a_nodeKinds x = nI d → d < 10 → mt_enc (c x) ++ mt_encs (st.map c) = d :: mt_encs (st1.map c) →
            ((gr_rg (a_nodeKinds x) ∧ st1 = L x :: R x :: st) ∨ (¬ gr_rg (a_nodeKinds x) ∧ gr_lf (a_nodeKinds x) ∧ st1 = L x :: st) ∨ (¬ gr_lf (a_nodeKinds x) ∧ st1 = st)) →
            wX_writeRow_73 post (wX_writeRow_8 post (nI row) x2 fu) (nI row) x2 (nI vs.length) (nI k) (nI x) (a_nodeKinds x) (a_nodeKinds x) f_saidPlace f_instanceCount f_nodeCount f_equationCount (nI h) f_wordCount f_depth f_cellCount f_consCount f_closureCount f_stepCount f_runAnswer f_writtenCount a_kinds a_values a_spans a_bounds a_binders a_lengths a_parameterCounts tc a_typeLengths a_instanceFunctions a_nodeKinds nl a_nodeRights a_nodeSizes a_equationLefts a_equationRights sl sr a_words a_boundWords a_cellFirsts a_cellSeconds a_closureTokens a_closureWords a_written := by
          intro d st1 hkd hd he hst1
          rw [he, wrc d _ hd] at hdr'
          obtain ⟨d1, d2, d3⟩ := dr_s hdr'
          have hql : (mt_encs (st1.map c)).length ≤ q := by
            have := congrArg List.length he
            simp only [List.length_append, List.length_cons] at this
            omega
          refine br_f v10 ?_
          have := tail d nl vs st1 d1 (by omega) hg hn d2 d3 hql hst1
          rw [← hkd] at this
          exact this
        have all : wX_writeRow_73 post (wX_writeRow_8 post (nI row) x2 fu) (nI row) x2 (nI vs.length) (nI k) (nI x) (a_nodeKinds x) (a_nodeKinds x) f_saidPlace f_instanceCount f_nodeCount f_equationCount (nI h) f_wordCount f_depth f_cellCount f_consCount f_closureCount f_stepCount f_runAnswer f_writtenCount a_kinds a_values a_spans a_bounds a_binders a_lengths a_parameterCounts tc a_typeLengths a_instanceFunctions a_nodeKinds nl a_nodeRights a_nodeSizes a_equationLefts a_equationRights sl sr a_words a_boundWords a_cellFirsts a_cellSeconds a_closureTokens a_closureWords a_written := by
          rcases kd_cn kd x2' v10 with z | z | z | z | z
          · refine go 0 st z (by omega) (by rw [ec, gr_at_0 z]; rfl) (Or.inr (Or.inr ⟨by rw [z]; unfold gr_lf; decide, rfl⟩))
          · refine go 1 st z (by omega) (by rw [ec, gr_at_1 z]; rfl) (Or.inr (Or.inr ⟨by rw [z]; unfold gr_lf; decide, rfl⟩))
          · refine go 2 (L x :: R x :: st) z (by omega) ?_ (Or.inl ⟨Or.inl z, rfl⟩)
            rw [ec, gr_at_2 z]
            simp only [mt_enc, if_neg (show ¬ (2 : Nat) = 3 by omega), List.map_cons, mt_encs, List.cons_append, List.append_assoc]
          · refine go 3 (L x :: st) z (by omega) ?_ (Or.inr (Or.inl ⟨by rw [z]; exact nrg3, Or.inl z, rfl⟩))
            rw [ec, gr_at_3 z]
            simp only [mt_enc, if_true, List.append_nil, List.map_cons, mt_encs, List.cons_append]
          · refine go 4 (L x :: R x :: st) z (by omega) ?_ (Or.inl ⟨Or.inr z, rfl⟩)
            rw [ec, gr_at_4 z]
            simp only [mt_enc, if_neg (show ¬ (4 : Nat) = 3 by omega), List.map_cons, mt_encs, List.cons_append, List.append_assoc]
        cases cl with
        | true => subst hx2; exact br_f (by decide) (br_f v10 all)
        | false => subst hx2; exact br_t rfl all

variable {f_saidPlace f_instanceCount f_nodeCount f_equationCount f_stackCount f_wordCount f_depth f_cellCount f_consCount f_closureCount f_stepCount f_runAnswer f_writtenCount : Int32} {a_kinds a_values a_spans a_bounds a_binders a_lengths a_parameterCounts a_typeCodes a_typeLengths a_instanceFunctions a_nodeKinds a_nodeLefts a_nodeRights a_nodeSizes a_equationLefts a_equationRights a_stackLefts a_stackRights a_words a_boundWords a_cellFirsts a_cellSeconds a_closureTokens a_closureWords a_written : Nat → Int32}
theorem li_ext : ∀ (L Q : List Nat), L.length = Q.length → (∀ k, k < L.length → L.getD k 0 = Q.getD k 0) → L = Q := by
  intro L
  induction L with
  | nil => intro Q h _; exact (List.length_eq_zero_iff.mp h.symm).symm
  | cons x L ih =>
    intro Q h hk
    cases Q with
    | nil => simp at h
    | cons y Q =>
      have h0 := hk 0 (by simp)
      rw [List.getD_cons_zero, List.getD_cons_zero] at h0
      rw [h0, ih Q (by simpa using h) (fun k hk' => by have := hk (k + 1) (by simpa using hk'); rwa [List.getD_cons_succ, List.getD_cons_succ] at this)]
theorem cl_gd : ∀ (L : List Nat) (k : Nat), k < L.length → (cl_0 L).getD k 0 = if L.getD k 0 < 10 then L.getD k 0 else 0 := by
  intro L
  induction L with
  | nil => intro k h; simp at h
  | cons x L ih =>
    intro k h
    cases k with
    | zero => rfl
    | succ k =>
      have := ih k (by simpa using h)
      simp only [cl_0, List.map_cons, List.getD_cons_succ] at this ⊢
      exact this
theorem cl_len (L : List Nat) : (cl_0 L).length = L.length := by rw [cl_0, List.length_map]
theorem x_bi2 {post : SX → Prop} {f : Nat} {Lc : List Nat} (hf : f < 5) (hr : rw_ok f a_typeCodes a_typeLengths Lc)
    (hP : ∀ tc : Nat → Int32, (∀ k, k < Lc.length → tc (210 + k) = nI ((cl_0 Lc).getD k 0)) → (∀ j, j < 210 ∨ 252 ≤ j → tc j = a_typeCodes j) → post (f_saidPlace, 1, f_nodeCount, f_equationCount, f_stackCount, f_wordCount, f_depth, f_cellCount, f_consCount, f_closureCount, f_stepCount, f_runAnswer, f_writtenCount, a_kinds, a_values, a_spans, a_bounds, a_binders, a_lengths, a_parameterCounts, tc, (upd a_typeLengths 5 (nI Lc.length)), (upd a_instanceFunctions 0 (nI f)), a_nodeKinds, a_nodeLefts, a_nodeRights, a_nodeSizes, a_equationLefts, a_equationRights, a_stackLefts, a_stackRights, a_words, a_boundWords, a_cellFirsts, a_cellSeconds, a_closureTokens, a_closureWords, a_written)) :
    ∀ q k fu (tc : Nat → Int32), k + q = Lc.length → q < fu → (∀ i, i < k → tc (210 + i) = nI ((cl_0 Lc).getD i 0)) → (∀ j, j < 210 ∨ 252 ≤ j → tc j = a_typeCodes j) → wX_beginInstances_2 post (nI f) f_saidPlace f_instanceCount f_nodeCount f_equationCount f_stackCount f_wordCount f_depth f_cellCount f_consCount f_closureCount f_stepCount f_runAnswer f_writtenCount fu (nI k) a_kinds a_values a_spans a_bounds a_binders a_lengths a_parameterCounts tc a_typeLengths a_instanceFunctions a_nodeKinds a_nodeLefts a_nodeRights a_nodeSizes a_equationLefts a_equationRights a_stackLefts a_stackRights a_words a_boundWords a_cellFirsts a_cellSeconds a_closureTokens a_closureWords a_written := by
  obtain ⟨r1, r2, r3, r4⟩ := hr
  have cf : (nI f).toNatClampNeg = f := nI_clamp (by omega)
  intro q
  induction q with
  | zero =>
    intro k fu tc hk hfu h1 h2
    obtain ⟨fu, rfl⟩ : ∃ g, fu = g + 1 := ⟨fu - 1, by omega⟩
    have e : k = Lc.length := by omega
    subst e
    refine And.intro (pk_in f 18 (by omega)) ?_
    rw [cf, r3]
    exact br_t (nI_le (Nat.le_refl _) (by omega)) (And.intro (pk_in f 18 (by omega)) (nm_e (nm_e (hP tc h1 h2))))
  | succ q ih =>
    intro k fu tc hk hfu h1 h2
    obtain ⟨fu, rfl⟩ : ∃ g, fu = g + 1 := ⟨fu - 1, by omega⟩
    obtain ⟨c1, c2⟩ := r4 k (by omega)
    have e210 : (210 : Int32) + nI k = nI (210 + k) := nI_add 210 k
    have cg := cl_gd Lc k (by omega)
    have fin : ∀ x : Int32, x = nI ((cl_0 Lc).getD k 0) → wX_beginInstances_2 post (nI f) f_saidPlace f_instanceCount f_nodeCount f_equationCount f_stackCount f_wordCount f_depth f_cellCount f_consCount f_closureCount f_stepCount f_runAnswer f_writtenCount fu (nI (k + 1)) a_kinds a_values a_spans a_bounds a_binders a_lengths a_parameterCounts (upd tc (210 + k) x) a_typeLengths a_instanceFunctions a_nodeKinds a_nodeLefts a_nodeRights a_nodeSizes a_equationLefts a_equationRights a_stackLefts a_stackRights a_words a_boundWords a_cellFirsts a_cellSeconds a_closureTokens a_closureWords a_written := by
      intro x hx
      refine ih (k + 1) fu _ (by omega) (by omega) (fun i hi => ?_) (fun j hj => ?_)
      · by_cases z : i = k
        · rw [z, pk_us, hx]
        · rw [pk_un (by omega)]; exact h1 i (by omega)
      · rw [pk_un (by omega)]; exact h2 j hj
    refine And.intro (pk_in f 18 (by omega)) ?_
    rw [cf, r3]
    refine br_f (nI_ge (by omega) (by omega)) (And.intro (pk_in (f * 42 + k) 756 (by omega) (ix_42 f k)) (nm_r (e' := nI (Lc.getD k 0)) (by rw [ix_42, nI_clamp (by omega), h2 _ (by omega), c1]) ?_))
    refine pk_lt (Lc.getD k 0) 10 (fun z => And.intro (pk_in (210 + k) 756 (by omega) e210) (nm_r (e' := upd tc (210 + k) (nI (Lc.getD k 0))) (by rw [e210, nI_clamp (by omega)]) (nm_r (nI_1 k) (fin _ (by rw [cg, if_pos z]))))) (fun z => And.intro (pk_in (210 + k) 756 (by omega) e210) (nm_r (e' := upd tc (210 + k) 0) (by rw [e210, nI_clamp (by omega)]) (nm_r (nI_1 k) (fin _ (by rw [cg, if_neg (by omega)]; rfl)))))
theorem x_beginInstances {post : SX → Prop} {f : Nat} {Lc : List Nat} (hf : f < 5) (hr : rw_ok f a_typeCodes a_typeLengths Lc)
    (hP : ∀ tc : Nat → Int32, (∀ k, k < Lc.length → tc (210 + k) = nI ((cl_0 Lc).getD k 0)) → (∀ j, j < 210 ∨ 252 ≤ j → tc j = a_typeCodes j) → post (f_saidPlace, 1, f_nodeCount, f_equationCount, f_stackCount, f_wordCount, f_depth, f_cellCount, f_consCount, f_closureCount, f_stepCount, f_runAnswer, f_writtenCount, a_kinds, a_values, a_spans, a_bounds, a_binders, a_lengths, a_parameterCounts, tc, (upd a_typeLengths 5 (nI Lc.length)), (upd a_instanceFunctions 0 (nI f)), a_nodeKinds, a_nodeLefts, a_nodeRights, a_nodeSizes, a_equationLefts, a_equationRights, a_stackLefts, a_stackRights, a_words, a_boundWords, a_cellFirsts, a_cellSeconds, a_closureTokens, a_closureWords, a_written)) : wpX_beginInstances post (f_saidPlace, f_instanceCount, f_nodeCount, f_equationCount, f_stackCount, f_wordCount, f_depth, f_cellCount, f_consCount, f_closureCount, f_stepCount, f_runAnswer, f_writtenCount, a_kinds, a_values, a_spans, a_bounds, a_binders, a_lengths, a_parameterCounts, a_typeCodes, a_typeLengths, a_instanceFunctions, a_nodeKinds, a_nodeLefts, a_nodeRights, a_nodeSizes, a_equationLefts, a_equationRights, a_stackLefts, a_stackRights, a_words, a_boundWords, a_cellFirsts, a_cellSeconds, a_closureTokens, a_closureWords, a_written) (nI f) :=
  Exists.intro (Lc.length + 1) (x_bi2 hf hr hP Lc.length 0 (Lc.length + 1) a_typeCodes (by omega) (by omega) (fun i hi => by omega) (fun _ _ => rfl))
/-- the nodes of a CALL: its operands, then itself -/
def ca_st (a : Nat → Nat) (z P : Nat) : List Nat := (List.range P).map a ++ [z]
def ca_s (a : Nat → Nat) (z P : Nat) : Nat → List Nat
  | 0 => [z]
  | q + 1 => a (P - (q + 1)) :: ca_s a z P q
theorem ca_s2 {a : Nat → Nat} {z P : Nat} (h : P ≤ 2) : ca_s a z P P = ca_st a z P := by
  have : P = 0 ∨ P = 1 ∨ P = 2 := by omega
  rcases this with rfl | rfl | rfl <;> rfl
theorem ca_len (a : Nat → Nat) (z P : Nat) : (ca_st a z P).length = P + 1 := by simp [ca_st]
theorem ca_lt {a : Nat → Nat} {z P B : Nat} (ha : ∀ j, j < P → a j < B) (hz : z < B) : ∀ n ∈ ca_st a z P, n < B := by
  intro n hn
  unfold ca_st at hn
  rw [List.mem_append, List.mem_map] at hn
  rcases hn with ⟨j, h, rfl⟩ | h
  · exact ha j (List.mem_range.mp h)
  · simp at h; omega
theorem encs_le {ts : List mt_T} {b : Nat} : (∀ t ∈ ts, (mt_enc t).length ≤ b) → (mt_encs ts).length ≤ b * ts.length := by
  induction ts with
  | nil => intro _; exact Nat.zero_le _
  | cons t ts ih =>
    intro h
    have h1 := h t (by simp)
    have h2 := ih (fun x hx => h x (by simp [hx]))
    simp only [mt_encs, List.length_append, List.length_cons, Nat.mul_add, Nat.mul_one]
    omega
theorem x_wc27 {post : SX → Prop} {f t N P m : Nat} {sp : Nat → Nat} {L R rt ds : Nat → Nat} {c : Nat → mt_T} (hf : f < 5) (ht : t < 24) (h76 : 76 ≤ N) (hN : N ≤ 1126) (hP2 : P ≤ 2) (hm12 : m ≤ 12) (hsp : ∀ j, j < P → jp sp t j < 24 ∧ a_spans (f * 24 + jp sp t j) = nI (sp (jp sp t j)))
    (hg : xg_ok N a_nodeKinds a_nodeLefts a_nodeRights L R rt ds) (hm : mg_is N (gr_sat N a_nodeKinds L R) c) (hv : ∀ n, n < N → a_nodeKinds n = 10 → c n = .leaf (10 + n)) (hl : (mt_encs ((ca_st (jp sp t) t P).map c)).length ≤ 42)
    (hP : ∀ sl sr tc, (∀ j, j < (5 + m) * 42 ∨ (5 + m) * 42 + 42 ≤ j → tc j = a_typeCodes j) → (∀ i, i < (mt_encs ((ca_st (jp sp t) t P).map c)).length → tc ((5 + m) * 42 + i) = nI ((cl_0 (mt_encs ((ca_st (jp sp t) t P).map c))).getD i 0)) →
      post (f_saidPlace, (nI m), f_nodeCount, f_equationCount, (nI 0), f_wordCount, f_depth, f_cellCount, f_consCount, f_closureCount, f_stepCount, f_runAnswer, f_writtenCount, a_kinds, a_values, a_spans, a_bounds, a_binders, a_lengths, a_parameterCounts, tc, (upd a_typeLengths (5 + m) (nI (mt_encs ((ca_st (jp sp t) t P).map c)).length)), a_instanceFunctions, a_nodeKinds, a_nodeLefts, a_nodeRights, a_nodeSizes, a_equationLefts, a_equationRights, sl, sr, a_words, a_boundWords, a_cellFirsts, a_cellSeconds, a_closureTokens, a_closureWords, a_written)) :
    ∀ p fu q (sl sr : Nat → Int32), p + q = P → p < fu → sk_ok N (q + 1) sl (ca_s (jp sp t) t P q) → wX_writeCalledTypes_27 post (nI f) (nI (f * 24 + t)) fu (nI p + (-1)) f_saidPlace (nI m) f_nodeCount f_equationCount (nI (q + 1)) f_wordCount f_depth f_cellCount f_consCount f_closureCount f_stepCount f_runAnswer f_writtenCount a_kinds a_values a_spans a_bounds a_binders a_lengths a_parameterCounts a_typeCodes a_typeLengths a_instanceFunctions a_nodeKinds a_nodeLefts a_nodeRights a_nodeSizes a_equationLefts a_equationRights sl sr a_words a_boundWords a_cellFirsts a_cellSeconds a_closureTokens a_closureWords a_written := by
  intro p
  induction p with
  | zero =>
    intro fu q sl sr hq hfu hs
    obtain ⟨fu, rfl⟩ : ∃ g, fu = g + 1 := ⟨fu - 1, by omega⟩
    have e : q = P := by omega
    subst e
    rw [ca_s2 hP2] at hs
    refine br_t (by decide) ?_
    rw [show (5 : Int32) + nI m = nI (5 + m) from nI_add 5 m]
    refine x_writeRow (cl := true) (c := c) (st := ca_st (jp sp t) t q) (by omega) hN rfl hg hm hv hs hl (fun nl sl' sr' tc q0 q1 q2 => ?_)
    rw [q0 rfl]
    exact hP sl' sr' tc q1 q2
  | succ p ih =>
    intro fu q sl sr hq hfu hs
    obtain ⟨fu, rfl⟩ : ∃ g, fu = g + 1 := ⟨fu - 1, by omega⟩
    rw [pk_m1]
    have hj := hsp p (by omega)
    refine br_f (lt0_n (by omega)) (x_operandAt (B := f * 24) (t := t) (sp := sp) (by omega) (fun i hi => ⟨by have := (hsp i (by omega)).1; omega, (hsp i (by omega)).2⟩) (nm_r (e' := nI (jp sp t p)) (by rw [show nI f * 24 = nI (f * 24) from pk_mul f 24, pk_sub (by omega), Nat.add_sub_cancel_left]) ?_))
    refine x_push (by omega) (nm_e ?_)
    have e : p = P - (q + 1) := by omega
    refine ih fu (q + 1) _ _ (by omega) (by omega) ?_
    show sk_ok N (q + 1 + 1) _ (jp sp t (P - (q + 1)) :: ca_s (jp sp t) t P q)
    rw [← e]
    exact sk_push hs (by omega)
theorem x_writeCalledTypes {post : SX → Prop} {f t N P m : Nat} {sp : Nat → Nat} {L R rt ds : Nat → Nat} {c : Nat → mt_T} (hf : f < 5) (ht : t < 24) (h76 : 76 ≤ N) (hN : N ≤ 1126) (hP2 : P ≤ 2) (hm12 : m ≤ 12) (hsp : ∀ j, j < P → jp sp t j < 24 ∧ a_spans (f * 24 + jp sp t j) = nI (sp (jp sp t j)))
    (hk : a_kinds (f * 24 + t) = nI 4) (hcall : ∃ g, g < 11 ∧ a_values (f * 24 + t) = nI g ∧ (a_lengths g = 0 ∧ P = 0 ∨ a_lengths g ≠ 0 ∧ a_parameterCounts g = nI P))
    (hg : xg_ok N a_nodeKinds a_nodeLefts a_nodeRights L R rt ds) (hm : mg_is N (gr_sat N a_nodeKinds L R) c) (hv : ∀ n, n < N → a_nodeKinds n = 10 → c n = .leaf (10 + n)) (hl : (mt_encs ((ca_st (jp sp t) t P).map c)).length ≤ 42)
    (hP : ∀ sl sr tc, (∀ j, j < (5 + m) * 42 ∨ (5 + m) * 42 + 42 ≤ j → tc j = a_typeCodes j) → (∀ i, i < (mt_encs ((ca_st (jp sp t) t P).map c)).length → tc ((5 + m) * 42 + i) = nI ((cl_0 (mt_encs ((ca_st (jp sp t) t P).map c))).getD i 0)) →
      post (f_saidPlace, (nI m), f_nodeCount, f_equationCount, (nI 0), f_wordCount, f_depth, f_cellCount, f_consCount, f_closureCount, f_stepCount, f_runAnswer, f_writtenCount, a_kinds, a_values, a_spans, a_bounds, a_binders, a_lengths, a_parameterCounts, tc, (upd a_typeLengths (5 + m) (nI (mt_encs ((ca_st (jp sp t) t P).map c)).length)), a_instanceFunctions, a_nodeKinds, a_nodeLefts, a_nodeRights, a_nodeSizes, a_equationLefts, a_equationRights, sl, sr, a_words, a_boundWords, a_cellFirsts, a_cellSeconds, a_closureTokens, a_closureWords, a_written)) :
    wpX_writeCalledTypes post (f_saidPlace, (nI m), f_nodeCount, f_equationCount, f_stackCount, f_wordCount, f_depth, f_cellCount, f_consCount, f_closureCount, f_stepCount, f_runAnswer, f_writtenCount, a_kinds, a_values, a_spans, a_bounds, a_binders, a_lengths, a_parameterCounts, a_typeCodes, a_typeLengths, a_instanceFunctions, a_nodeKinds, a_nodeLefts, a_nodeRights, a_nodeSizes, a_equationLefts, a_equationRights, a_stackLefts, a_stackRights, a_words, a_boundWords, a_cellFirsts, a_cellSeconds, a_closureTokens, a_closureWords, a_written) (nI f) (nI t) := by
  refine nm_r (ix_24 f t) (x_push (h := 0) (by omega) ?_)
  refine x_operandCount (k := 4) (o := P) (by omega) hk (by omega) (fun _ => hcall) (fun z => absurd rfl z) (nm_r (e' := nI P + (-1)) (Int32.sub_eq_add_neg _ _) (Exists.intro (P + 1) ?_))
  refine x_wc27 hf ht h76 hN hP2 hm12 hsp hg hm hv hl hP P (P + 1) 0 _ _ (by omega) (by omega) ⟨rfl, fun n hn => ?_, fun i hi => ?_⟩
  · simp [ca_s] at hn; omega
  · have : i = 0 := by omega
    subst this; rw [pk_us]; rfl
/-- instances, as X holds them -/
def xI (I : List (Nat × List Nat)) (ifn tc tl : Nat → Int32) : Prop := ∀ i, i < I.length → (I.getD i (0, [])).1 < 5 ∧ ifn i = nI (I.getD i (0, [])).1 ∧ rw_ok (5 + i) tc tl (I.getD i (0, [])).2
theorem x_sn31 {post : Int32 → Prop} {r1 r2 : Nat} {L Q : List Nat} (h1 : rw_ok r1 a_typeCodes a_typeLengths L) (h2 : rw_ok r2 a_typeCodes a_typeLengths Q) (hl : L.length = Q.length) (hp1 : L = Q → post 1) (hp0 : L ≠ Q → post 0) :
    ∀ q k fu (x : Int32), k + q = L.length → q < fu → (x = 1 ∧ (∀ i, i < k → L.getD i 0 = Q.getD i 0) ∨ x = 0 ∧ L ≠ Q) → wX_isSameAsNewest_31 post (nI r1) (nI r2) f_saidPlace f_instanceCount f_nodeCount f_equationCount f_stackCount f_wordCount f_depth f_cellCount f_consCount f_closureCount f_stepCount f_runAnswer f_writtenCount a_kinds a_values a_spans a_bounds a_binders a_lengths a_parameterCounts a_typeCodes a_typeLengths a_instanceFunctions a_nodeKinds a_nodeLefts a_nodeRights a_nodeSizes a_equationLefts a_equationRights a_stackLefts a_stackRights a_words a_boundWords a_cellFirsts a_cellSeconds a_closureTokens a_closureWords a_written fu x (nI k) := by
  obtain ⟨a1, a2, a3, a4⟩ := h1
  obtain ⟨b1, b2, b3, b4⟩ := h2
  have c1 : (nI r1).toNatClampNeg = r1 := nI_clamp (by omega)
  intro q
  induction q with
  | zero =>
    intro k fu x hk hfu hx
    obtain ⟨fu, rfl⟩ : ∃ g, fu = g + 1 := ⟨fu - 1, by omega⟩
    have e : k = L.length := by omega
    subst e
    refine And.intro (pk_in r1 18 a1) ?_
    rw [c1, a3]
    rcases hx with ⟨rfl, hx⟩ | ⟨rfl, hx⟩
    · exact br_t (nI_le (Nat.le_refl _) (by omega)) (And.intro bo_1 (hp1 (li_ext L Q hl hx)))
    · exact br_t (nI_le (Nat.le_refl _) (by omega)) (And.intro bo_0 (hp0 hx))
  | succ q ih =>
    intro k fu x hk hfu hx
    obtain ⟨fu, rfl⟩ : ∃ g, fu = g + 1 := ⟨fu - 1, by omega⟩
    obtain ⟨d1, d2⟩ := a4 k (by omega)
    obtain ⟨e1, e2⟩ := b4 k (by omega)
    refine And.intro (pk_in r1 18 a1) ?_
    rw [c1, a3]
    refine br_f (nI_ge (by omega) (by omega)) ?_
    rcases hx with ⟨rfl, hx⟩ | ⟨rfl, hx⟩
    · refine br_f n1_0 (And.intro (pk_in (r1 * 42 + k) 756 (by omega) (ix_42 r1 k)) (And.intro (pk_in (r2 * 42 + k) 756 (by omega) (ix_42 r2 k)) ?_))
      rw [ix_42, ix_42, nI_clamp (n := r1 * 42 + k) (by omega), nI_clamp (n := r2 * 42 + k) (by omega), d1, e1]
      refine pk_eq (L.getD k 0) (Q.getD k 0) (fun z => nm_r (nI_1 k) (ih (k + 1) fu 1 (by omega) (by omega) (Or.inl ⟨rfl, fun i hi => ?_⟩))) (fun z => nm_r (nI_1 k) (ih (k + 1) fu 0 (by omega) (by omega) (Or.inr ⟨rfl, fun w => z (by rw [w])⟩)))
      by_cases y : i = k
      · rw [y]; exact z
      · exact hx i (by omega)
    · exact br_t rfl (And.intro bo_0 (hp0 hx))
theorem x_same {post : Int32 → Prop} {r1 m : Nat} {L Q : List Nat} (h1 : rw_ok r1 a_typeCodes a_typeLengths L) (h2 : rw_ok (5 + m) a_typeCodes a_typeLengths Q) (hp1 : L = Q → post 1) (hp0 : L ≠ Q → post 0) : wpX_isSameAsNewest post (f_saidPlace, (nI m), f_nodeCount, f_equationCount, f_stackCount, f_wordCount, f_depth, f_cellCount, f_consCount, f_closureCount, f_stepCount, f_runAnswer, f_writtenCount, a_kinds, a_values, a_spans, a_bounds, a_binders, a_lengths, a_parameterCounts, a_typeCodes, a_typeLengths, a_instanceFunctions, a_nodeKinds, a_nodeLefts, a_nodeRights, a_nodeSizes, a_equationLefts, a_equationRights, a_stackLefts, a_stackRights, a_words, a_boundWords, a_cellFirsts, a_cellSeconds, a_closureTokens, a_closureWords, a_written) (nI r1) := by
  have a2 := h1.2.1
  have b2 := h2.2.1
  have c1 : (nI r1).toNatClampNeg = r1 := nI_clamp (by have := h1.1; omega)
  have c2 : (nI (5 + m)).toNatClampNeg = 5 + m := nI_clamp (by have := h2.1; omega)
  refine nm_r (e' := nI (5 + m)) (nI_add 5 m) (And.intro (pk_in r1 18 h1.1) (And.intro (pk_in (5 + m) 18 h2.1) ?_))
  rw [c1, c2, h1.2.2.1, h2.2.2.1]
  refine pk_eq L.length Q.length (fun z => Exists.intro (L.length + 1) (x_sn31 h1 h2 z hp1 hp0 L.length 0 (L.length + 1) 1 (by omega) (by omega) (Or.inl ⟨rfl, fun i hi => by omega⟩))) (fun z => Exists.intro (L.length + 1) ?_)
  have hne : L ≠ Q := fun w => z (by rw [w])
  refine And.intro (pk_in r1 18 h1.1) ?_
  rw [c1, h1.2.2.1]
  exact pk_le L.length 0 (fun _ => And.intro bo_0 (hp0 hne)) (fun _ => br_t rfl (And.intro bo_0 (hp0 hne)))
/-- one more: known, or new, or too many -/
def ins (I : List (Nat × List Nat)) (x : Nat × List Nat) : Option (List (Nat × List Nat)) := if x ∈ I then some I else if I.length = 12 then none else some (I ++ [x])
theorem mem_gd {α : Type} {d : α} : ∀ {I : List α} {i : Nat}, i < I.length → I.getD i d ∈ I := by
  intro I
  induction I with
  | nil => intro i h; simp at h
  | cons x I ih =>
    intro i h
    cases i with
    | zero => simp
    | succ i => rw [List.getD_cons_succ]; exact List.mem_cons_of_mem _ (ih (by simpa using h))
theorem gd_mem' {α : Type} {d : α} {x : α} : ∀ {I : List α}, x ∈ I → ∃ i, i < I.length ∧ I.getD i d = x := by
  intro I
  induction I with
  | nil => intro h; simp at h
  | cons y I ih =>
    intro h
    rcases List.mem_cons.mp h with z | z
    · exact ⟨0, by simp, by simp [z]⟩
    · obtain ⟨i, a, b⟩ := ih z
      exact ⟨i + 1, by simpa using a, by rw [List.getD_cons_succ]; exact b⟩
theorem xI_app {I : List (Nat × List Nat)} {ifn tc tl : Nat → Int32} {g : Nat} {Q : List Nat} (h : xI I ifn tc tl) (hg : g < 5) (hr : rw_ok (5 + I.length) tc tl Q) : xI (I ++ [(g, Q)]) (upd ifn I.length (nI g)) tc tl := by
  intro i hi
  rw [List.length_append] at hi
  by_cases z : i < I.length
  · rw [gd_l _ _ _ _ z, pk_un (by omega)]; exact h i z
  · have e : i = I.length := by simp at hi; omega
    subst e
    have := gd_r [(g, Q)] (0, []) 0 I
    rw [Nat.zero_add] at this
    rw [this, pk_us]
    exact ⟨hg, rfl, hr⟩
theorem x_ai2 {post : Int32 → SX → Prop} {I : List (Nat × List Nat)} {g : Nat} {Q : List Nat} (hI : xI I a_instanceFunctions a_typeCodes a_typeLengths) (h12 : I.length ≤ 12) (hg : g < 5) (hr : rw_ok (5 + I.length) a_typeCodes a_typeLengths Q)
    (h1 : (g, Q) ∈ I → post 1 (f_saidPlace, (nI I.length), f_nodeCount, f_equationCount, f_stackCount, f_wordCount, f_depth, f_cellCount, f_consCount, f_closureCount, f_stepCount, f_runAnswer, f_writtenCount, a_kinds, a_values, a_spans, a_bounds, a_binders, a_lengths, a_parameterCounts, a_typeCodes, a_typeLengths, a_instanceFunctions, a_nodeKinds, a_nodeLefts, a_nodeRights, a_nodeSizes, a_equationLefts, a_equationRights, a_stackLefts, a_stackRights, a_words, a_boundWords, a_cellFirsts, a_cellSeconds, a_closureTokens, a_closureWords, a_written)) (h2 : ¬ (g, Q) ∈ I → I.length ≠ 12 → post 1 (f_saidPlace, (nI (I.length + 1)), f_nodeCount, f_equationCount, f_stackCount, f_wordCount, f_depth, f_cellCount, f_consCount, f_closureCount, f_stepCount, f_runAnswer, f_writtenCount, a_kinds, a_values, a_spans, a_bounds, a_binders, a_lengths, a_parameterCounts, a_typeCodes, a_typeLengths, (upd a_instanceFunctions I.length (nI g)), a_nodeKinds, a_nodeLefts, a_nodeRights, a_nodeSizes, a_equationLefts, a_equationRights, a_stackLefts, a_stackRights, a_words, a_boundWords, a_cellFirsts, a_cellSeconds, a_closureTokens, a_closureWords, a_written)) (h3 : ¬ (g, Q) ∈ I → I.length = 12 → post 0 (f_saidPlace, (nI I.length), f_nodeCount, f_equationCount, f_stackCount, f_wordCount, f_depth, f_cellCount, f_consCount, f_closureCount, f_stepCount, f_runAnswer, f_writtenCount, a_kinds, a_values, a_spans, a_bounds, a_binders, a_lengths, a_parameterCounts, a_typeCodes, a_typeLengths, a_instanceFunctions, a_nodeKinds, a_nodeLefts, a_nodeRights, a_nodeSizes, a_equationLefts, a_equationRights, a_stackLefts, a_stackRights, a_words, a_boundWords, a_cellFirsts, a_cellSeconds, a_closureTokens, a_closureWords, a_written)) :
    ∀ q i fu, i + q = I.length → q < fu → (∀ k, k < i → I.getD k (0, []) ≠ (g, Q)) → wX_addInstance_2 post (nI g) f_saidPlace (nI I.length) f_nodeCount f_equationCount f_stackCount f_wordCount f_depth f_cellCount f_consCount f_closureCount f_stepCount f_runAnswer f_writtenCount a_kinds a_values a_spans a_bounds a_binders a_lengths a_parameterCounts a_typeCodes a_typeLengths a_instanceFunctions a_nodeKinds a_nodeLefts a_nodeRights a_nodeSizes a_equationLefts a_equationRights a_stackLefts a_stackRights a_words a_boundWords a_cellFirsts a_cellSeconds a_closureTokens a_closureWords a_written fu (nI i) := by
  intro q
  induction q with
  | zero =>
    intro i fu hi hfu hn
    obtain ⟨fu, rfl⟩ : ∃ g, fu = g + 1 := ⟨fu - 1, by omega⟩
    have e : i = I.length := by omega
    subst e
    have hnm : ¬ (g, Q) ∈ I := by
      intro z
      obtain ⟨k, k1, k2⟩ := gd_mem' (d := (0, [])) z
      exact hn k k1 k2
    refine br_t (nI_le (Nat.le_refl _) (by omega)) (pk_eq I.length 12 (fun z => h3 hnm z) (fun z => And.intro (pk_in I.length 12 (by omega)) (nm_r (e' := upd a_instanceFunctions I.length (nI g)) (by rw [nI_clamp (by omega)]) (nm_r (nI_1 I.length) (h2 hnm z)))))
  | succ q ih =>
    intro i fu hi hfu hn
    obtain ⟨fu, rfl⟩ : ∃ g, fu = g + 1 := ⟨fu - 1, by omega⟩
    obtain ⟨a1, a2, a3⟩ := hI i (by omega)
    refine br_f (nI_ge (by omega) (by omega)) (And.intro (pk_in i 12 (by omega)) ?_)
    rw [nI_clamp (n := i) (by omega), a2]
    have next : I.getD i (0, []) ≠ (g, Q) → wX_addInstance_2 post (nI g) f_saidPlace (nI I.length) f_nodeCount f_equationCount f_stackCount f_wordCount f_depth f_cellCount f_consCount f_closureCount f_stepCount f_runAnswer f_writtenCount a_kinds a_values a_spans a_bounds a_binders a_lengths a_parameterCounts a_typeCodes a_typeLengths a_instanceFunctions a_nodeKinds a_nodeLefts a_nodeRights a_nodeSizes a_equationLefts a_equationRights a_stackLefts a_stackRights a_words a_boundWords a_cellFirsts a_cellSeconds a_closureTokens a_closureWords a_written fu (nI (i + 1)) := by
      intro z
      refine ih (i + 1) fu (by omega) (by omega) (fun k hk => ?_)
      by_cases y : k = i
      · rw [y]; exact z
      · exact hn k (by omega)
    refine pk_eq (I.getD i (0, [])).1 g (fun z => ?_) (fun z => nm_r (nI_1 i) (next (fun w => z (by rw [w]))))
    rw [show (5 : Int32) + nI i = nI (5 + i) from nI_add 5 i]
    refine x_same a3 hr (fun w => br_f n1_0 (h1 ?_)) (fun w => br_t rfl (nm_r (nI_1 i) (next (fun y => w (by rw [y])))))
    have : I.getD i (0, []) = (g, Q) := Prod.ext z w
    rw [← this]; exact mem_gd (by omega)
theorem x_addInstance {post : Int32 → SX → Prop} {I : List (Nat × List Nat)} {g : Nat} {Q : List Nat} (hI : xI I a_instanceFunctions a_typeCodes a_typeLengths) (h12 : I.length ≤ 12) (hg : g < 5) (hr : rw_ok (5 + I.length) a_typeCodes a_typeLengths Q)
    (h1 : ∀ I' ifn, ins I (g, Q) = some I' → xI I' ifn a_typeCodes a_typeLengths → I'.length ≤ 12 → post 1 (f_saidPlace, (nI I'.length), f_nodeCount, f_equationCount, f_stackCount, f_wordCount, f_depth, f_cellCount, f_consCount, f_closureCount, f_stepCount, f_runAnswer, f_writtenCount, a_kinds, a_values, a_spans, a_bounds, a_binders, a_lengths, a_parameterCounts, a_typeCodes, a_typeLengths, ifn, a_nodeKinds, a_nodeLefts, a_nodeRights, a_nodeSizes, a_equationLefts, a_equationRights, a_stackLefts, a_stackRights, a_words, a_boundWords, a_cellFirsts, a_cellSeconds, a_closureTokens, a_closureWords, a_written)) (h0 : ins I (g, Q) = none → post 0 (f_saidPlace, (nI I.length), f_nodeCount, f_equationCount, f_stackCount, f_wordCount, f_depth, f_cellCount, f_consCount, f_closureCount, f_stepCount, f_runAnswer, f_writtenCount, a_kinds, a_values, a_spans, a_bounds, a_binders, a_lengths, a_parameterCounts, a_typeCodes, a_typeLengths, a_instanceFunctions, a_nodeKinds, a_nodeLefts, a_nodeRights, a_nodeSizes, a_equationLefts, a_equationRights, a_stackLefts, a_stackRights, a_words, a_boundWords, a_cellFirsts, a_cellSeconds, a_closureTokens, a_closureWords, a_written)) : wpX_addInstance post (f_saidPlace, (nI I.length), f_nodeCount, f_equationCount, f_stackCount, f_wordCount, f_depth, f_cellCount, f_consCount, f_closureCount, f_stepCount, f_runAnswer, f_writtenCount, a_kinds, a_values, a_spans, a_bounds, a_binders, a_lengths, a_parameterCounts, a_typeCodes, a_typeLengths, a_instanceFunctions, a_nodeKinds, a_nodeLefts, a_nodeRights, a_nodeSizes, a_equationLefts, a_equationRights, a_stackLefts, a_stackRights, a_words, a_boundWords, a_cellFirsts, a_cellSeconds, a_closureTokens, a_closureWords, a_written) (nI g) := by
  refine Exists.intro (I.length + 1) (x_ai2 hI h12 hg hr (fun z => h1 I a_instanceFunctions (by unfold ins; rw [if_pos z]) hI h12) (fun z w => ?_) (fun z w => h0 (by unfold ins; rw [if_neg z, if_pos w])) I.length 0 (I.length + 1) (by omega) (by omega) (fun k hk => by omega))
  have := h1 (I ++ [(g, Q)]) (upd a_instanceFunctions I.length (nI g)) (by unfold ins; rw [if_neg z, if_neg w]) (xI_app hI hg hr) (by rw [List.length_append]; simp; omega)
  rw [List.length_append] at this
  exact this

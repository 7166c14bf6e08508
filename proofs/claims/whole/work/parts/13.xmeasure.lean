variable {f_saidPlace f_instanceCount f_nodeCount f_equationCount f_stackCount f_wordCount f_depth f_cellCount f_consCount f_closureCount f_stepCount f_runAnswer f_writtenCount : Int32} {a_kinds a_values a_spans a_bounds a_binders a_lengths a_parameterCounts a_typeCodes a_typeLengths a_instanceFunctions a_nodeKinds a_nodeLefts a_nodeRights a_nodeSizes a_equationLefts a_equationRights a_stackLefts a_stackRights a_words a_boundWords a_cellFirsts a_cellSeconds a_closureTokens a_closureWords a_written : Nat → Int32}
def cp (m : Nat) : Nat := if m ≤ 14 then m else 15
theorem cp_le (m : Nat) : cp m ≤ m := by unfold cp; split <;> omega
theorem cp_15 (m : Nat) : cp m ≤ 15 := by unfold cp; split <;> omega
theorem cp_s {m : Nat} (h : cp m < 15) : cp m = m := by unfold cp at *; split <;> rename_i z; rfl; rw [if_neg z] at h; omega
theorem cp_b {m : Nat} (h : 15 ≤ m) : cp m = 15 := by unfold cp; rw [if_neg (by omega)]
theorem cp_m {m : Nat} (h : m ≤ 14) : cp m = m := by unfold cp; rw [if_pos h]
theorem cp_p {m : Nat} (h : 0 < m) : 0 < cp m := by unfold cp; split <;> omega
/-- sizes that are known are those of the trees -/
def zs_ok (N : Nat) (Sz : Nat → Int32) (c : Nat → mt_T) : Prop := ∀ n, n < N → Sz n ≠ 0 → Sz n = nI (cp (mt_enc (c n)).length)
theorem x_sizeOf {post : Int32 → Prop} {N n : Nat} {L R rt ds : Nat → Nat} {c : Nat → mt_T} (hN : N ≤ 1126) (hg : xg_ok N a_nodeKinds a_nodeLefts a_nodeRights L R rt ds) (hz : zs_ok N a_nodeSizes c) (hn : n < N)
    (h0 : (∃ m, gr_ch a_nodeKinds L R n m ∧ m < N ∧ a_nodeSizes m = 0) → post 0)
    (h1 : (∀ m, gr_ch a_nodeKinds L R n m → m < N ∧ a_nodeSizes m ≠ 0) → post (nI (cp (mt_enc (gr_nx a_nodeKinds L R c n)).length))) : wpX_sizeOf post (f_saidPlace, f_instanceCount, f_nodeCount, f_equationCount, f_stackCount, f_wordCount, f_depth, f_cellCount, f_consCount, f_closureCount, f_stepCount, f_runAnswer, f_writtenCount, a_kinds, a_values, a_spans, a_bounds, a_binders, a_lengths, a_parameterCounts, a_typeCodes, a_typeLengths, a_instanceFunctions, a_nodeKinds, a_nodeLefts, a_nodeRights, a_nodeSizes, a_equationLefts, a_equationRights, a_stackLefts, a_stackRights, a_words, a_boundWords, a_cellFirsts, a_cellSeconds, a_closureTokens, a_closureWords, a_written) (nI n) := by
  have cn : (nI n).toNatClampNeg = n := nI_clamp (by omega)
  obtain ⟨kd, kl, kr, _⟩ := hg.1 n hn
  refine And.intro (pk_in n 1126 (by omega)) (nm_r (e' := a_nodeKinds n) (by rw [cn]) ?_)
  refine br_c (fun h5 => ?_) (fun h5 => ?_)
  · obtain ⟨l1, l2⟩ := kl (Or.inl h5)
    rw [cn, l1]
    refine And.intro (pk_in n 1126 (by omega)) (And.intro (pk_in (L n) 1126 (by omega)) ?_)
    rw [nI_clamp (by omega)]
    have hch : ∀ m, gr_ch a_nodeKinds L R n m → m = L n := by
      rintro m (⟨_, e⟩ | ⟨z, _⟩)
      · exact e
      · rw [h5] at z; rcases z with z | z <;> exact absurd z (by decide)
    by_cases hs : a_nodeSizes (L n) = 0
    · rw [hs]; exact h0 ⟨L n, Or.inl ⟨Or.inl h5, rfl⟩, l2, hs⟩
    · have e := h1 (fun m hm => by rw [hch m hm]; exact ⟨l2, hs⟩)
      have : gr_nx a_nodeKinds L R c n = c (L n) := by
        unfold gr_nx
        rw [if_neg (by rw [h5]; decide), gr_at_5 h5]
      rw [this, ← hz (L n) l2 hs] at e
      exact e
  · refine x_hasLeft (fun hl => br_f n1_0 ?_) (fun hl => br_t rfl ?_)
    · obtain ⟨l1, l2⟩ := kl (Or.inr hl)
      rw [cn, l1]
      refine And.intro (pk_in n 1126 (by omega)) (And.intro (pk_in (L n) 1126 (by omega)) (nm_r (e' := a_nodeSizes (L n)) (by rw [nI_clamp (by omega)]) ?_))
      refine x_hasRight (fun hr => br_f n1_0 ?_) (fun hr => br_t rfl ?_)
      · obtain ⟨r1, r2⟩ := kr hr
        rw [r1]
        refine And.intro (pk_in n 1126 (by omega)) (And.intro (pk_in (R n) 1126 (by omega)) ?_)
        rw [nI_clamp (n := R n) (by omega)]
        refine br_c (fun z => h0 ⟨L n, Or.inl ⟨Or.inr hl, rfl⟩, l2, z⟩) (fun zl => x_hasRight (fun _ => br_f n1_0 (br_c (fun z => h0 ⟨R n, Or.inr ⟨hr, rfl⟩, r2, z⟩) (fun zr => ?_))) (fun z => absurd hr z))
        have e := h1 (by
          rintro m (⟨_, rfl⟩ | ⟨_, rfl⟩)
          · exact ⟨l2, zl⟩
          · exact ⟨r2, zr⟩)
        have el : (mt_enc (gr_nx a_nodeKinds L R c n)).length = 1 + (mt_enc (c (L n))).length + (mt_enc (c (R n))).length := by
          unfold gr_nx
          rcases hr with z | z
          · rw [if_neg (by rw [z]; decide), gr_at_2 z]
            simp only [mt_enc, List.length_cons, List.length_append]
            rw [if_neg (by omega)]; omega
          · rw [if_neg (by rw [z]; decide), gr_at_4 z]
            simp only [mt_enc, List.length_cons, List.length_append]
            rw [if_neg (by omega)]; omega
        rw [el] at e
        rw [hz (L n) l2 zl, hz (R n) r2 zr]
        have p1 := cp_15 (mt_enc (c (L n))).length
        have p2 := cp_15 (mt_enc (c (R n))).length
        have q1 := cp_le (mt_enc (c (L n))).length
        have q2 := cp_le (mt_enc (c (R n))).length
        refine pk_lt (cp (mt_enc (c (L n))).length + cp (mt_enc (c (R n))).length) 14 (fun hlt => ?_) (fun hge => ?_) (nI_add _ _)
        · rw [cp_s (m := (mt_enc (c (L n))).length) (by omega), cp_s (m := (mt_enc (c (R n))).length) (by omega)] at hlt ⊢
          rw [cp_m (by omega)] at e
          have : 1 + nI (mt_enc (c (L n))).length + nI (mt_enc (c (R n))).length = nI (1 + (mt_enc (c (L n))).length + (mt_enc (c (R n))).length) := by
            rw [← nI_add, ← nI_add]; rfl
          rw [this]; exact e
        · rw [cp_b (by omega)] at e; exact e
      · refine br_c (fun z => h0 ⟨L n, Or.inl ⟨Or.inr hl, rfl⟩, l2, z⟩) (fun zl => x_hasRight (fun z => absurd z hr) (fun _ => br_t rfl ?_))
        have h3 : a_nodeKinds n = 3 := hl.elim id (fun z => absurd z hr)
        have e := h1 (by
          rintro m (⟨_, rfl⟩ | ⟨z, _⟩)
          · exact ⟨l2, zl⟩
          · exact absurd z hr)
        have el : (mt_enc (gr_nx a_nodeKinds L R c n)).length = 1 + (mt_enc (c (L n))).length := by
          unfold gr_nx
          rw [if_neg (by rw [h3]; decide), gr_at_3 h3]
          simp only [mt_enc, List.length_cons, List.length_append, if_true, List.length_nil]
          omega
        rw [el] at e
        rw [hz (L n) l2 zl]
        have p1 := cp_15 (mt_enc (c (L n))).length
        have q1 := cp_le (mt_enc (c (L n))).length
        refine pk_lt (cp (mt_enc (c (L n))).length) 14 (fun hlt => ?_) (fun hge => ?_) (nI_add _ 0)
        · rw [cp_s (m := (mt_enc (c (L n))).length) (by omega)] at hlt ⊢
          rw [cp_m (by omega)] at e
          have : 1 + nI (mt_enc (c (L n))).length + 0 = nI (1 + (mt_enc (c (L n))).length) := by
            rw [← nI_add, Int32.add_zero]; rfl
          rw [this]; exact e
        · rw [cp_b (by omega)] at e; exact e
    · have e := h1 (by
        rintro m (⟨z | z, _⟩ | ⟨z, _⟩)
        · exact absurd z h5
        · exact absurd z hl
        · exact absurd (Or.inr z) hl)
      have el : (mt_enc (gr_nx a_nodeKinds L R c n)).length = 1 := by
        unfold gr_nx
        split
        · rfl
        · rename_i h10
          rcases kd_cn kd h5 h10 with z | z | z | z | z
          · rw [gr_at_0 z]; rfl
          · rw [gr_at_1 z]; rfl
          · exact absurd (Or.inr (Or.inl z)) hl
          · exact absurd (Or.inl z) hl
          · exact absurd (Or.inr (Or.inr z)) hl
      rw [el] at e
      exact e
theorem sm_01 {g : Nat → Nat} : ∀ n, (∀ j, j < n → g j ≤ 1) → sm g n = n ∨ ∃ j, j < n ∧ g j = 0 := by
  intro n
  induction n with
  | zero => intro _; exact Or.inl rfl
  | succ n ih =>
    intro h
    rcases ih (fun j hj => h j (by omega)) with e | ⟨j, hj, e⟩
    · by_cases z : g n = 0
      · exact Or.inr ⟨n, by omega, z⟩
      · left; have := h n (by omega); simp only [sm]; omega
    · exact Or.inr ⟨j, by omega, e⟩
theorem sm_full {g : Nat → Nat} : ∀ n, (∀ j, j < n → g j ≤ 1) → sm g n = n → ∀ j, j < n → g j = 1 := by
  intro n
  induction n with
  | zero => intro _ _ j hj; omega
  | succ n ih =>
    intro h e j hj
    have h1 := sm_le n (fun j hj => h j (by omega))
    have h2 := h n (by omega)
    simp only [sm] at e
    by_cases z : j = n
    · subst z; omega
    · exact ih (fun j hj => h j (by omega)) (by omega) j (by omega)
def zc (N : Nat) (Sz : Nat → Int32) : Nat := sm (fun j => if Sz j = 0 then 0 else 1) N
theorem zc_1 (Sz : Nat → Int32) : ∀ j, (if Sz j = 0 then 0 else 1) ≤ 1 := by intro j; split <;> omega
theorem zc_le (N : Nat) (Sz : Nat → Int32) : zc N Sz ≤ N := by
  have := sm_le (g := fun j => if Sz j = 0 then 0 else 1) (b := 1) N (fun j _ => zc_1 Sz j)
  unfold zc; omega
theorem zc_up {N : Nat} {Sz : Nat → Int32} {k : Nat} {x : Int32} (hk : k < N) (h0 : Sz k = 0) (hx : x ≠ 0) : zc N (upd Sz k x) = zc N Sz + 1 := by
  have := sm_one (g := fun j => if Sz j = 0 then 0 else 1) (g' := fun j => if upd Sz k x j = 0 then 0 else 1) (a := k) N hk (fun j _ hj => by simp only [pk_un hj])
  simp only [pk_us, if_pos h0, if_neg hx] at this
  unfold zc; omega
theorem up_id {f : Nat → Int32} {k : Nat} {x : Int32} (h : f k = x) : upd f k x = f := by
  funext j
  by_cases z : j = k
  · subst z; rw [pk_us, h]
  · rw [pk_un z]

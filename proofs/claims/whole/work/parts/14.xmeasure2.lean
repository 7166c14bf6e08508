variable {f_saidPlace f_instanceCount f_nodeCount f_equationCount f_stackCount f_wordCount f_depth f_cellCount f_consCount f_closureCount f_stepCount f_runAnswer f_writtenCount : Int32} {a_kinds a_values a_spans a_bounds a_binders a_lengths a_parameterCounts a_typeCodes a_typeLengths a_instanceFunctions a_nodeKinds a_nodeLefts a_nodeRights a_nodeSizes a_equationLefts a_equationRights a_stackLefts a_stackRights a_words a_boundWords a_cellFirsts a_cellSeconds a_closureTokens a_closureWords a_written : Nat → Int32}
/-- every node without a size names one -/
def zt (N : Nat) (K : Nat → Int32) (L R : Nat → Nat) (Sz : Nat → Int32) (i : Nat) : Prop := ∀ n, i ≤ n → n < N → Sz n = 0 → ∃ m, gr_ch K L R n m ∧ m < N ∧ Sz m = 0
theorem x_m50 {post : Int32 → SX → Prop} {J29 : Int32 → Int32 → Int32 → (Nat → Int32) → (Nat → Int32) → (Nat → Int32) → (Nat → Int32) → (Nat → Int32) → (Nat → Int32) → (Nat → Int32) → (Nat → Int32) → (Nat → Int32) → (Nat → Int32) → (Nat → Int32) → (Nat → Int32) → (Nat → Int32) → (Nat → Int32) → (Nat → Int32) → (Nat → Int32) → (Nat → Int32) → (Nat → Int32) → (Nat → Int32) → (Nat → Int32) → (Nat → Int32) → (Nat → Int32) → (Nat → Int32) → (Nat → Int32) → (Nat → Int32) → Prop} {x1 x3 : Int32} {N z0 : Nat} {L R rt ds : Nat → Nat} (hN : N ≤ 1125) (hg : xg_ok N a_nodeKinds a_nodeLefts a_nodeRights L R rt ds)
    (hJ : ∀ m' Sz' c', gr_M N a_nodeKinds L R (fun n => Sz' n ≠ 0) c' → zs_ok N Sz' c' → zc N Sz' = z0 + m' → (m' ≠ 0 ∨ zt N a_nodeKinds L R Sz' 0) → J29 (x1 + nI m') (nI m') (x3 + 1) a_kinds a_values a_spans a_bounds a_binders a_lengths a_parameterCounts a_typeCodes a_typeLengths a_instanceFunctions a_nodeKinds a_nodeLefts a_nodeRights Sz' a_equationLefts a_equationRights a_stackLefts a_stackRights a_words a_boundWords a_cellFirsts a_cellSeconds a_closureTokens a_closureWords a_written) :
    ∀ i f m Sz c, i ≤ N → i < f → gr_M N a_nodeKinds L R (fun n => Sz n ≠ 0) c → zs_ok N Sz c → zc N Sz = z0 + m → (m ≠ 0 ∨ zt N a_nodeKinds L R Sz i) →
      wX_measureNodes_50 post J29 x1 x3 f_saidPlace f_instanceCount (nI N) f_equationCount f_stackCount f_wordCount f_depth f_cellCount f_consCount f_closureCount f_stepCount f_runAnswer f_writtenCount f (nI m) (nI i + (-1)) a_kinds a_values a_spans a_bounds a_binders a_lengths a_parameterCounts a_typeCodes a_typeLengths a_instanceFunctions a_nodeKinds a_nodeLefts a_nodeRights Sz a_equationLefts a_equationRights a_stackLefts a_stackRights a_words a_boundWords a_cellFirsts a_cellSeconds a_closureTokens a_closureWords a_written := by
  intro i
  induction i with
  | zero =>
    intro f m Sz c _ hf hM hz hc ht
    obtain ⟨f, rfl⟩ : ∃ g, f = g + 1 := ⟨f - 1, by omega⟩
    exact br_t (by decide) (nm_e (nm_e (hJ m Sz c hM hz hc ht)))
  | succ k ih =>
    intro f m Sz c hi hf hM hz hc ht
    obtain ⟨f, rfl⟩ : ∃ g, f = g + 1 := ⟨f - 1, by omega⟩
    have ck : (nI k).toNatClampNeg = k := nI_clamp (by omega)
    rw [pk_m1 k]
    refine br_f (nI_pos (by omega)) (And.intro (pk_in k 1126 (by omega)) ?_)
    rw [ck]
    by_cases h0 : Sz k = 0
    · refine br_t h0 (x_sizeOf (c := c) (by omega) hg hz (by omega) (fun hx => ?_) (fun hx => ?_))
      · refine And.intro (pk_in k 1126 (by omega)) (nm_r (e' := Sz) (up_id h0) (And.intro (pk_in k 1126 (by omega)) ?_))
        refine br_t (by rw [h0]; decide) (nm_r (Int32.add_zero _) (nm_e (ih f m Sz c (by omega) (by omega) hM hz hc ?_)))
        rcases ht with z | z
        · exact Or.inl z
        · refine Or.inr (fun n hn hN' hs => ?_)
          by_cases e : n = k
          · subst e; exact hx
          · exact z n (by omega) hN' hs
      · have hp := cp_p (mt_enc_ne (gr_nx a_nodeKinds L R c k))
        have hp2 := cp_15 (mt_enc (gr_nx a_nodeKinds L R c k)).length
        have hv : ¬ nI (cp (mt_enc (gr_nx a_nodeKinds L R c k)).length) = 0 := nI_ne0 hp (by omega)
        refine And.intro (pk_in k 1126 (by omega)) (nm_e (And.intro (pk_in k 1126 (by omega)) ?_))
        rw [pk_us]
        refine br_f (nI_nle hp (by omega)) (nm_r (nI_1 m) (nm_e (ih f (m + 1) _ (gr_put c k (gr_nx a_nodeKinds L R c k)) (by omega) (by omega) ?_ ?_ ?_ (Or.inl (by omega)))))
        · have hst := gr_M_step hM (n := k) (by omega) (fun z => z h0) hx (hg.1 k (by omega)).1
          have e : (fun n => upd Sz k (nI (cp (mt_enc (gr_nx a_nodeKinds L R c k)).length)) n ≠ 0) = (fun j => Sz j ≠ 0 ∨ j = k) := by
            funext j
            apply propext
            by_cases z : j = k
            · subst z; rw [pk_us]; exact ⟨fun _ => Or.inr rfl, fun _ => hv⟩
            · rw [pk_un z]; exact ⟨fun h => Or.inl h, fun h => h.elim id (fun q => absurd q z)⟩
          rw [e]; exact hst
        · intro n hn hs
          by_cases z : n = k
          · subst z; rw [pk_us, gr_put_eq]
          · rw [pk_un z] at hs ⊢; rw [gr_put_ne z]; exact hz n hn hs
        · rw [zc_up (by omega) h0 hv, hc]; omega
    · refine br_f h0 (nm_e (ih f m Sz c (by omega) (by omega) hM hz hc ?_))
      rcases ht with z | z
      · exact Or.inl z
      · refine Or.inr (fun n hn hN' hs => ?_)
        by_cases e : n = k
        · subst e; exact absurd hs h0
        · exact z n (by omega) hN' hs
theorem x_m29 {post : Int32 → SX → Prop} {N : Nat} {L R rt ds : Nat → Nat} (hN : N ≤ 1125) (hg : xg_ok N a_nodeKinds a_nodeLefts a_nodeRights L R rt ds)
    (hP1 : ∀ Sz' c, mg_is N (gr_sat N a_nodeKinds L R) c → (∀ n, n < N → a_nodeKinds n = 10 → c n = .leaf (10 + n)) → (∀ n, n < N → Sz' n = nI (cp (mt_enc (c n)).length)) → post 1 (f_saidPlace, f_instanceCount, (nI N), f_equationCount, f_stackCount, f_wordCount, f_depth, f_cellCount, f_consCount, f_closureCount, f_stepCount, f_runAnswer, f_writtenCount, a_kinds, a_values, a_spans, a_bounds, a_binders, a_lengths, a_parameterCounts, a_typeCodes, a_typeLengths, a_instanceFunctions, a_nodeKinds, a_nodeLefts, a_nodeRights, Sz', a_equationLefts, a_equationRights, a_stackLefts, a_stackRights, a_words, a_boundWords, a_cellFirsts, a_cellSeconds, a_closureTokens, a_closureWords, a_written))
    (hP0 : ∀ Sz', (∀ r, ¬ gr_sat N a_nodeKinds L R r) → post 0 (f_saidPlace, f_instanceCount, (nI N), f_equationCount, f_stackCount, f_wordCount, f_depth, f_cellCount, f_consCount, f_closureCount, f_stepCount, f_runAnswer, f_writtenCount, a_kinds, a_values, a_spans, a_bounds, a_binders, a_lengths, a_parameterCounts, a_typeCodes, a_typeLengths, a_instanceFunctions, a_nodeKinds, a_nodeLefts, a_nodeRights, Sz', a_equationLefts, a_equationRights, a_stackLefts, a_stackRights, a_words, a_boundWords, a_cellFirsts, a_cellSeconds, a_closureTokens, a_closureWords, a_written)) :
    ∀ f rd m Sz c, N + 2 ≤ f + rd → rd ≤ N + 1 → gr_M N a_nodeKinds L R (fun n => Sz n ≠ 0) c → zs_ok N Sz c → (m ≠ 0 → rd ≤ zc N Sz) → (m ≠ 0 ∨ zt N a_nodeKinds L R Sz 0) → m ≤ N + 1 →
      wX_measureNodes_29 post f_saidPlace f_instanceCount (nI N) f_equationCount f_stackCount f_wordCount f_depth f_cellCount f_consCount f_closureCount f_stepCount f_runAnswer f_writtenCount f (nI (zc N Sz)) (nI m) (nI rd) a_kinds a_values a_spans a_bounds a_binders a_lengths a_parameterCounts a_typeCodes a_typeLengths a_instanceFunctions a_nodeKinds a_nodeLefts a_nodeRights Sz a_equationLefts a_equationRights a_stackLefts a_stackRights a_words a_boundWords a_cellFirsts a_cellSeconds a_closureTokens a_closureWords a_written := by
  have fin : ∀ Sz c, gr_M N a_nodeKinds L R (fun n => Sz n ≠ 0) c → zs_ok N Sz c → zt N a_nodeKinds L R Sz 0 →
      wX_measureNodes_112 post (nI (zc N Sz)) f_saidPlace f_instanceCount (nI N) f_equationCount f_stackCount f_wordCount f_depth f_cellCount f_consCount f_closureCount f_stepCount f_runAnswer f_writtenCount a_kinds a_values a_spans a_bounds a_binders a_lengths a_parameterCounts a_typeCodes a_typeLengths a_instanceFunctions a_nodeKinds a_nodeLefts a_nodeRights Sz a_equationLefts a_equationRights a_stackLefts a_stackRights a_words a_boundWords a_cellFirsts a_cellSeconds a_closureTokens a_closureWords a_written := by
    intro Sz c hM hz ht
    have hle := zc_le N Sz
    refine pk_eq (zc N Sz) N (fun e => ?_) (fun e => ?_)
    · have hall : ∀ n, n < N → Sz n ≠ 0 := by
        intro n hn z
        have := sm_full N (fun j _ => zc_1 Sz j) e n hn
        simp only [if_pos z] at this
        omega
      exact hP1 Sz c (gr_M_mg hM hall (fun n hn => (hg.1 n hn).1)) (fun n hn hk => (hM.2 n hn (hall n hn)).1 hk) (fun n hn => hz n hn (hall n hn))
    · refine hP0 Sz (fun r hr => ?_)
      rcases sm_01 (g := fun j => if Sz j = 0 then 0 else 1) N (fun j _ => zc_1 Sz j) with z | ⟨j, hj, z⟩
      · exact e z
      · have z0 : Sz j = 0 := by
          by_cases q : Sz j = 0
          · exact q
          · simp only [if_neg q] at z; omega
        exact gr_none hg.2 (Z := fun n => Sz n = 0) (fun n hn hZ => ht n (by omega) hn hZ) hr _ j hj z0 (Nat.lt_succ_self _)
  intro f
  induction f with
  | zero => intro rd m Sz c h1 h2; omega
  | succ f ih =>
    intro rd m Sz c hf hrd hM hz hr ht hm
    have hle := zc_le N Sz
    refine pk_le 1126 rd (fun h => ?_) (fun h => ?_)
    · exact fin Sz c hM hz (ht.elim (fun z => by have := hr z; omega) id)
    · by_cases m0 : m = 0
      · subst m0
        exact br_t (by decide) (fin Sz c hM hz (ht.elim (fun z => absurd rfl z) id))
      · refine br_f (nI_nle (by omega) (by omega)) (nm_r (e' := nI N + (-1)) (Int32.sub_eq_add_neg _ _) (Exists.intro (N + 1) ?_))
        refine x_m50 (z0 := zc N Sz) hN hg (fun m' Sz' c' hM' hz' hc' ht' => ?_) N (N + 1) 0 Sz c (Nat.le_refl _) (by omega) hM hz rfl (Or.inr (fun n h1 h2 => by omega))
        have hle' := zc_le N Sz'
        have h3 := hr m0
        rw [nI_add, nI_1, ← hc']
        exact ih (rd + 1) m' Sz' c' (by omega) (by omega) hM' hz' (fun z => by omega) ht' (by omega)
theorem x_m2 {post : Int32 → SX → Prop} {N : Nat} (hN : N ≤ 1126)
    (hP : ∀ Sz', (∀ n, n < N → Sz' n = 0) → ∃ n29, wX_measureNodes_29 post f_saidPlace f_instanceCount (nI N) f_equationCount f_stackCount f_wordCount f_depth f_cellCount f_consCount f_closureCount f_stepCount f_runAnswer f_writtenCount n29 0 1 0 a_kinds a_values a_spans a_bounds a_binders a_lengths a_parameterCounts a_typeCodes a_typeLengths a_instanceFunctions a_nodeKinds a_nodeLefts a_nodeRights Sz' a_equationLefts a_equationRights a_stackLefts a_stackRights a_words a_boundWords a_cellFirsts a_cellSeconds a_closureTokens a_closureWords a_written) :
    ∀ f i Sz, i ≤ N → N < f + i → (∀ n, n < i → Sz n = 0) → wX_measureNodes_2 post f_saidPlace f_instanceCount (nI N) f_equationCount f_stackCount f_wordCount f_depth f_cellCount f_consCount f_closureCount f_stepCount f_runAnswer f_writtenCount f (nI i) a_kinds a_values a_spans a_bounds a_binders a_lengths a_parameterCounts a_typeCodes a_typeLengths a_instanceFunctions a_nodeKinds a_nodeLefts a_nodeRights Sz a_equationLefts a_equationRights a_stackLefts a_stackRights a_words a_boundWords a_cellFirsts a_cellSeconds a_closureTokens a_closureWords a_written := by
  intro f
  induction f with
  | zero => intro i Sz h1 h2; omega
  | succ f ih =>
    intro i Sz h1 h2 hz
    refine pk_le N i (fun h => hP Sz (fun n hn => hz n (by omega))) (fun h => And.intro (pk_in i 1126 (by omega)) (nm_r (e' := upd Sz i 0) (by rw [nI_clamp (by omega)]) (nm_r (nI_1 i) (ih (i + 1) _ (by omega) (by omega) (fun n hn => ?_)))))
    by_cases z : n = i
    · subst z; exact pk_us
    · rw [pk_un z]; exact hz n (by omega)
theorem x_measure {post : Int32 → SX → Prop} {N : Nat} {L R rt ds : Nat → Nat} (hN : N ≤ 1125) (hg : xg_ok N a_nodeKinds a_nodeLefts a_nodeRights L R rt ds)
    (hP1 : ∀ Sz' c, mg_is N (gr_sat N a_nodeKinds L R) c → (∀ n, n < N → a_nodeKinds n = 10 → c n = .leaf (10 + n)) → (∀ n, n < N → Sz' n = nI (cp (mt_enc (c n)).length)) → post 1 (f_saidPlace, f_instanceCount, (nI N), f_equationCount, f_stackCount, f_wordCount, f_depth, f_cellCount, f_consCount, f_closureCount, f_stepCount, f_runAnswer, f_writtenCount, a_kinds, a_values, a_spans, a_bounds, a_binders, a_lengths, a_parameterCounts, a_typeCodes, a_typeLengths, a_instanceFunctions, a_nodeKinds, a_nodeLefts, a_nodeRights, Sz', a_equationLefts, a_equationRights, a_stackLefts, a_stackRights, a_words, a_boundWords, a_cellFirsts, a_cellSeconds, a_closureTokens, a_closureWords, a_written))
    (hP0 : ∀ Sz', (∀ r, ¬ gr_sat N a_nodeKinds L R r) → post 0 (f_saidPlace, f_instanceCount, (nI N), f_equationCount, f_stackCount, f_wordCount, f_depth, f_cellCount, f_consCount, f_closureCount, f_stepCount, f_runAnswer, f_writtenCount, a_kinds, a_values, a_spans, a_bounds, a_binders, a_lengths, a_parameterCounts, a_typeCodes, a_typeLengths, a_instanceFunctions, a_nodeKinds, a_nodeLefts, a_nodeRights, Sz', a_equationLefts, a_equationRights, a_stackLefts, a_stackRights, a_words, a_boundWords, a_cellFirsts, a_cellSeconds, a_closureTokens, a_closureWords, a_written)) : wpX_measureNodes post (f_saidPlace, f_instanceCount, (nI N), f_equationCount, f_stackCount, f_wordCount, f_depth, f_cellCount, f_consCount, f_closureCount, f_stepCount, f_runAnswer, f_writtenCount, a_kinds, a_values, a_spans, a_bounds, a_binders, a_lengths, a_parameterCounts, a_typeCodes, a_typeLengths, a_instanceFunctions, a_nodeKinds, a_nodeLefts, a_nodeRights, a_nodeSizes, a_equationLefts, a_equationRights, a_stackLefts, a_stackRights, a_words, a_boundWords, a_cellFirsts, a_cellSeconds, a_closureTokens, a_closureWords, a_written) := by
  refine Exists.intro (N + 1) (x_m2 (by omega) (fun Sz' hz' => Exists.intro (N + 2) ?_) (N + 1) 0 _ (by omega) (by omega) (fun n hn => by omega))
  have hz0 : zc N Sz' = 0 := by
    unfold zc
    have : sm (fun j => if Sz' j = 0 then 0 else 1) N = sm (fun _ => 0) N := sm_same N (fun j hj => by rw [hz' j hj]; rfl)
    rw [this]
    have := sm_le (g := fun _ => 0) (b := 0) N (fun j _ => Nat.le_refl 0)
    omega
  have := x_m29 hN hg hP1 hP0 (N + 2) 0 1 Sz' (fun _ => .leaf 0) (by omega) (by omega) (gr_M_0 (fun n hn h => h (hz' n hn))) (fun n hn h => absurd (hz' n hn) h) (fun _ => by omega) (Or.inl (by omega)) (by omega)
  rw [hz0] at this
  exact this

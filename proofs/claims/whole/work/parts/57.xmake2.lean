variable {f_saidPlace f_instanceCount f_nodeCount f_equationCount f_stackCount f_wordCount f_depth f_cellCount f_consCount f_closureCount f_stepCount f_runAnswer f_writtenCount : Int32} {a_kinds a_values a_spans a_bounds a_binders a_lengths a_parameterCounts a_typeCodes a_typeLengths a_instanceFunctions a_nodeKinds a_nodeLefts a_nodeRights a_nodeSizes a_equationLefts a_equationRights a_stackLefts a_stackRights a_words a_boundWords a_cellFirsts a_cellSeconds a_closureTokens a_closureWords a_written : Nat → Int32}
/-- the CALLs of a body, one after the other -/
def fld (kN vN : Nat → Nat) (q : Nat → List Nat) : Nat → Nat → List (Nat × List Nat) → Option (List (Nat × List Nat))
  | 0, _, I => some I
  | m + 1, t, I => if kN t = 4 then (match ins I (vN t, q t) with
    | none => none
    | some I' => fld kN vN q m (t + 1) I') else fld kN vN q m (t + 1) I
theorem ins_ext {I I' : List (Nat × List Nat)} {x : Nat × List Nat} (h : ins I x = some I') : ∃ J, I' = I ++ J ∧ ∀ y ∈ J, y = x := by
  unfold ins at h
  by_cases z : x ∈ I
  · rw [if_pos z] at h; injection h with h; exact ⟨[], by rw [h, List.append_nil], by simp⟩
  · rw [if_neg z] at h
    by_cases w : I.length = 12
    · rw [if_pos w] at h; cases h
    · rw [if_neg w] at h; injection h with h; exact ⟨[x], h.symm, by simp⟩
theorem fld_ext {kN vN : Nat → Nat} {q : Nat → List Nat} {p : Nat × List Nat → Prop} : ∀ m t I I', (∀ s, t ≤ s → s < t + m → kN s = 4 → p (vN s, q s)) → fld kN vN q m t I = some I' → ∃ J, I' = I ++ J ∧ ∀ y ∈ J, p y := by
  intro m
  induction m with
  | zero => intro t I I' _ h; rw [fld] at h; injection h with h; exact ⟨[], by rw [h, List.append_nil], by simp⟩
  | succ m ih =>
    intro t I I' hp h
    rw [fld] at h
    by_cases z : kN t = 4
    · rw [if_pos z] at h
      cases e : ins I (vN t, q t) with
      | none => rw [e] at h; cases h
      | some I1 =>
        rw [e] at h
        obtain ⟨J1, a1, b1⟩ := ins_ext e
        obtain ⟨J2, a2, b2⟩ := ih (t + 1) I1 I' (fun s h1 h2 => hp s (by omega) (by omega)) h
        refine ⟨J1 ++ J2, by rw [a2, a1, List.append_assoc], fun y hy => ?_⟩
        rcases List.mem_append.mp hy with w | w
        · rw [b1 y w]; exact hp t (by omega) (by omega) z
        · exact b2 y w
    · rw [if_neg z] at h
      exact ih (t + 1) I I' (fun s h1 h2 => hp s (by omega) (by omega)) h
theorem xI_row {I : List (Nat × List Nat)} {ifn tc tl tc' tl' : Nat → Int32} (h : xI I ifn tc tl) (h1 : ∀ j, j < (5 + I.length) * 42 → tc' j = tc j) (h2 : ∀ j, j < 5 + I.length → tl' j = tl j) : xI I ifn tc' tl' := by
  intro i hi
  obtain ⟨a, b, r1, r2, r3, r4⟩ := h i hi
  refine ⟨a, b, r1, r2, by rw [h2 _ (by omega)]; exact r3, fun k hk => ?_⟩
  rw [h1 _ (by omega)]; exact r4 k hk
/-- rows of the functions' own types stay -/
def lw_same (tc tl tc' tl' : Nat → Int32) : Prop := (∀ j, j < 210 → tc' j = tc j) ∧ ∀ j, j < 5 → tl' j = tl j
theorem x_ac4 {post : Int32 → SX → Prop} {f n N : Nat} {kN vN : Nat → Nat} {oc sp : Nat → Nat} {L R rt ds : Nat → Nat} {c : Nat → mt_T} {tc0 tl0 : Nat → Int32} {RS : Option (List (Nat × List Nat))} (hf : f < 5) (hn : n ≤ 24) (hl : a_lengths f = nI n) (h76 : 76 ≤ N) (hN : N ≤ 1126)
    (hb : ∀ t, t < n → a_kinds (f * 24 + t) = nI (kN t) ∧ kN t ≤ 16 ∧ (kN t = 4 → vN t < 5 ∧ a_values (f * 24 + t) = nI (vN t) ∧ oc t ≤ 2 ∧ a_lengths (vN t) ≠ 0 ∧ a_parameterCounts (vN t) = nI (oc t) ∧ ∀ j, j < oc t → jp sp t j < n ∧ a_spans (f * 24 + jp sp t j) = nI (sp (jp sp t j))))
    (hg : xg_ok N a_nodeKinds a_nodeLefts a_nodeRights L R rt ds) (hm : mg_is N (gr_sat N a_nodeKinds L R) c) (hv : ∀ n, n < N → a_nodeKinds n = 10 → c n = .leaf (10 + n)) (h14 : ∀ p, p < 74 → (mt_enc (c p)).length ≤ 14)
    (hP1 : ∀ I' sc ifn tc tl sl sr, RS = some I' → xI I' ifn tc tl → I'.length ≤ 12 → lw_same tc0 tl0 tc tl → post 1 (f_saidPlace, (nI I'.length), f_nodeCount, f_equationCount, sc, f_wordCount, f_depth, f_cellCount, f_consCount, f_closureCount, f_stepCount, f_runAnswer, f_writtenCount, a_kinds, a_values, a_spans, a_bounds, a_binders, a_lengths, a_parameterCounts, tc, tl, ifn, a_nodeKinds, a_nodeLefts, a_nodeRights, a_nodeSizes, a_equationLefts, a_equationRights, sl, sr, a_words, a_boundWords, a_cellFirsts, a_cellSeconds, a_closureTokens, a_closureWords, a_written))
    (hP0 : ∀ ic sc ifn tc tl sl sr, RS = none → lw_same tc0 tl0 tc tl → post 0 (f_saidPlace, ic, f_nodeCount, f_equationCount, sc, f_wordCount, f_depth, f_cellCount, f_consCount, f_closureCount, f_stepCount, f_runAnswer, f_writtenCount, a_kinds, a_values, a_spans, a_bounds, a_binders, a_lengths, a_parameterCounts, tc, tl, ifn, a_nodeKinds, a_nodeLefts, a_nodeRights, a_nodeSizes, a_equationLefts, a_equationRights, sl, sr, a_words, a_boundWords, a_cellFirsts, a_cellSeconds, a_closureTokens, a_closureWords, a_written)) :
    ∀ m t fu I sc ifn tc tl sl sr, t + m = n → m < fu → xI I ifn tc tl → I.length ≤ 12 → lw_same tc0 tl0 tc tl → fld kN vN (fun t => cl_0 (mt_encs ((ca_st (jp sp t) t (oc t)).map c))) m t I = RS →
      wX_addCalledInstances_4 post (nI f) fu 1 (nI t) f_saidPlace (nI I.length) f_nodeCount f_equationCount sc f_wordCount f_depth f_cellCount f_consCount f_closureCount f_stepCount f_runAnswer f_writtenCount a_kinds a_values a_spans a_bounds a_binders a_lengths a_parameterCounts tc tl ifn a_nodeKinds a_nodeLefts a_nodeRights a_nodeSizes a_equationLefts a_equationRights sl sr a_words a_boundWords a_cellFirsts a_cellSeconds a_closureTokens a_closureWords a_written := by
  intro m
  induction m with
  | zero =>
    intro t fu I sc ifn tc tl sl sr ht hfu hI h12 hlw hR
    obtain ⟨fu, rfl⟩ : ∃ g, fu = g + 1 := ⟨fu - 1, by omega⟩
    have e : t = n := by omega
    subst e
    refine And.intro (pk_in f 11 (by omega)) ?_
    rw [nI_clamp (n := f) (by omega), hl]
    exact br_t (nI_le (Nat.le_refl _) (by omega)) (And.intro bo_1 (hP1 I sc ifn tc tl sl sr hR.symm hI h12 hlw))
  | succ m ih =>
    intro t fu I sc ifn tc tl sl sr ht hfu hI h12 hlw hR
    obtain ⟨fu, rfl⟩ : ∃ g, fu = g + 1 := ⟨fu - 1, by omega⟩
    have htn : t < n := by omega
    obtain ⟨b1, b2, b3⟩ := hb t htn
    rw [fld] at hR
    have c24 : (nI (f * 24 + t)).toNatClampNeg = f * 24 + t := nI_clamp (by omega)
    refine And.intro (pk_in f 11 (by omega)) ?_
    rw [nI_clamp (n := f) (by omega), hl]
    refine br_f (nI_ge (by omega) (by omega)) (br_f n1_0 (And.intro (pk_in (f * 24 + t) 264 (by omega) (ix_24 f t)) ?_))
    rw [ix_24, c24, b1]
    refine pk_eq (kN t) 4 (fun z => ?_) (fun z => nm_r (nI_1 t) (ih (t + 1) fu I sc ifn tc tl sl sr (by omega) (by omega) hI h12 hlw (by rw [if_neg z] at hR; exact hR)))
    rw [if_pos z] at hR
    obtain ⟨v1, v2, v3, v4, v5, v6⟩ := b3 z
    have hst : ∀ x ∈ ca_st (jp sp t) t (oc t), x < 24 := ca_lt (fun j hj => by have := (v6 j hj).1; omega) (by omega)
    have hle : (mt_encs ((ca_st (jp sp t) t (oc t)).map c)).length ≤ 42 := by
      have := encs_le (ts := (ca_st (jp sp t) t (oc t)).map c) (b := 14) (fun x hx => by
        obtain ⟨y, hy, rfl⟩ := List.mem_map.mp hx
        exact h14 y (by have := hst y hy; omega))
      rw [List.length_map, ca_len] at this
      omega
    refine x_writeCalledTypes (P := oc t) (sp := sp) (c := c) hf (by omega) h76 hN v3 h12 (fun j hj => ⟨by have := (v6 j hj).1; omega, (v6 j hj).2⟩) (by rw [b1, z]) ⟨vN t, by omega, v2, Or.inr ⟨v4, v5⟩⟩ hg hm hv hle (fun sl' sr' tc' q1 q2 => ?_)
    refine And.intro (pk_in (f * 24 + t) 264 (by omega)) ?_
    rw [v2]
    have hI' : xI I ifn tc' (upd tl (5 + I.length) (nI (mt_encs ((ca_st (jp sp t) t (oc t)).map c)).length)) := xI_row hI (fun j hj => q1 j (by omega)) (fun j hj => pk_un (by omega))
    have hlw' : lw_same tc0 tl0 tc' (upd tl (5 + I.length) (nI (mt_encs ((ca_st (jp sp t) t (oc t)).map c)).length)) := ⟨fun j hj => by rw [q1 j (by omega)]; exact hlw.1 j hj, fun j hj => by rw [pk_un (by omega)]; exact hlw.2 j hj⟩
    refine x_addInstance (Q := cl_0 (mt_encs ((ca_st (jp sp t) t (oc t)).map c))) hI' h12 v1 ⟨by omega, by rw [cl_len]; exact hle, by rw [cl_len, pk_us], fun k hk => ?_⟩ (fun I1 ifn1 e1 x1 l1 => ?_) (fun e0 => ?_)
    · rw [cl_len] at hk
      refine ⟨q2 k hk, ?_⟩
      have := cl_gd (mt_encs ((ca_st (jp sp t) t (oc t)).map c)) k hk
      rw [this]; split <;> omega
    · rw [e1] at hR
      exact nm_r (nI_1 t) (ih (t + 1) fu I1 _ ifn1 _ _ sl' sr' (by omega) (by omega) x1 l1 hlw' hR)
    · rw [e0] at hR
      refine nm_r (nI_1 t) ?_
      obtain ⟨fu, rfl⟩ : ∃ g, fu = g + 1 := ⟨fu - 1, by omega⟩
      refine And.intro (pk_in f 11 (by omega)) ?_
      rw [nI_clamp (n := f) (by omega), hl]
      have fin := hP0 (nI I.length) (nI 0) ifn _ _ sl' sr' hR.symm hlw'
      exact pk_le n (t + 1) (fun _ => And.intro bo_0 fin) (fun _ => br_t rfl (And.intro bo_0 fin))
/-- copies of the bodies -/
def kp_ok (ln : Nat → Nat) (P : Nat → Nat → Prop) (ki va spa bou ki' va' spa' bou' : Nat → Int32) : Prop :=
  (∀ g t, P g t → t < ln g → ki' ((5 + g) * 24 + t) = ki (g * 24 + t) ∧ (ki (g * 24 + t) = 4 → va' ((5 + g) * 24 + t) = 5 + va (g * 24 + t)) ∧ (ki (g * 24 + t) ≠ 4 → va' ((5 + g) * 24 + t) = va (g * 24 + t)) ∧ spa' ((5 + g) * 24 + t) = spa (g * 24 + t) ∧ bou' ((5 + g) * 24 + t) = bou (g * 24 + t)) ∧
  (∀ j, j < 120 ∨ 240 ≤ j → ki' j = ki j ∧ va' j = va j ∧ spa' j = spa j ∧ bou' j = bou j)
theorem x_kb37 {post : SX → Prop} {J2 : JX} {f : Nat} {ln : Nat → Nat} {ki0 va0 spa0 bou0 : Nat → Int32} (hf : f < 5) (h24 : ∀ g, g < 5 → ln g ≤ 24) (hl : a_lengths f = nI (ln f))
    (hJ : ∀ ki va spa bou, kp_ok ln (fun g _ => g < f + 1) ki0 va0 spa0 bou0 ki va spa bou → J2 (nI (f + 1)) ki va spa bou a_binders a_lengths a_parameterCounts a_typeCodes a_typeLengths a_instanceFunctions a_nodeKinds a_nodeLefts a_nodeRights a_nodeSizes a_equationLefts a_equationRights a_stackLefts a_stackRights a_words a_boundWords a_cellFirsts a_cellSeconds a_closureTokens a_closureWords a_written) :
    ∀ q t fu ki va spa bou, t + q = ln f → q < fu → kp_ok ln (fun g s => g < f ∨ g = f ∧ s < t) ki0 va0 spa0 bou0 ki va spa bou → wX_keepBodies_37 post J2 (nI f) f_saidPlace f_instanceCount f_nodeCount f_equationCount f_stackCount f_wordCount f_depth f_cellCount f_consCount f_closureCount f_stepCount f_runAnswer f_writtenCount fu (nI t) ki va spa bou a_binders a_lengths a_parameterCounts a_typeCodes a_typeLengths a_instanceFunctions a_nodeKinds a_nodeLefts a_nodeRights a_nodeSizes a_equationLefts a_equationRights a_stackLefts a_stackRights a_words a_boundWords a_cellFirsts a_cellSeconds a_closureTokens a_closureWords a_written := by
  intro q
  induction q with
  | zero =>
    intro t fu ki va spa bou ht hfu h
    obtain ⟨fu, rfl⟩ : ∃ g, fu = g + 1 := ⟨fu - 1, by omega⟩
    have e : t = ln f := by omega
    refine And.intro (pk_in f 11 (by omega)) ?_
    rw [nI_clamp (n := f) (by omega), hl, e]
    refine br_t (nI_le (Nat.le_refl _) (by have := h24 f hf; omega)) (nm_r (nI_1 f) (hJ ki va spa bou ⟨fun g s hg hs => h.1 g s ?_ hs, h.2⟩))
    by_cases z : g = f
    · subst z; exact Or.inr ⟨rfl, by omega⟩
    · exact Or.inl (by omega)
  | succ q ih =>
    intro t fu ki va spa bou ht hfu h
    obtain ⟨fu, rfl⟩ : ∃ g, fu = g + 1 := ⟨fu - 1, by omega⟩
    have n24 := h24 f hf
    have e5 : ((5 : Int32) + nI f) * 24 + nI t = nI ((5 + f) * 24 + t) := by rw [show (5 : Int32) + nI f = nI (5 + f) from nI_add 5 f, ix_24]
    have c1 : (nI (f * 24 + t)).toNatClampNeg = f * 24 + t := nI_clamp (by omega)
    have c2 : (nI ((5 + f) * 24 + t)).toNatClampNeg = (5 + f) * 24 + t := nI_clamp (by omega)
    obtain ⟨o1, o2, o3, o4⟩ := h.2 (f * 24 + t) (by omega)
    have p1 : vp_in (nI (f * 24 + t)) 264 := pk_in (f * 24 + t) 264 (by omega)
    have p2 : vp_in (nI ((5 + f) * 24 + t)) 264 := pk_in ((5 + f) * 24 + t) 264 (by omega)
    have fin : ∀ z0 : Int32, (ki0 (f * 24 + t) = 4 → z0 = 5 + va0 (f * 24 + t)) → (ki0 (f * 24 + t) ≠ 4 → z0 = va0 (f * 24 + t)) →
        wX_keepBodies_110 post J2 (wX_keepBodies_37 post J2 (nI f) f_saidPlace f_instanceCount f_nodeCount f_equationCount f_stackCount f_wordCount f_depth f_cellCount f_consCount f_closureCount f_stepCount f_runAnswer f_writtenCount fu) (nI f) (nI t) (nI (f * 24 + t)) (nI ((5 + f) * 24 + t)) z0 (nI ((5 + f) * 24 + t)) f_saidPlace f_instanceCount f_nodeCount f_equationCount f_stackCount f_wordCount f_depth f_cellCount f_consCount f_closureCount f_stepCount f_runAnswer f_writtenCount (upd ki ((5 + f) * 24 + t) (ki0 (f * 24 + t))) va spa bou a_binders a_lengths a_parameterCounts a_typeCodes a_typeLengths a_instanceFunctions a_nodeKinds a_nodeLefts a_nodeRights a_nodeSizes a_equationLefts a_equationRights a_stackLefts a_stackRights a_words a_boundWords a_cellFirsts a_cellSeconds a_closureTokens a_closureWords a_written := by
      intro z0 w1 w2
      refine And.intro p2 (nm_r (e' := upd va ((5 + f) * 24 + t) z0) (by rw [c2]) (And.intro p1 (And.intro p2 (nm_r (e' := upd spa ((5 + f) * 24 + t) (spa0 (f * 24 + t))) (by rw [c1, c2, o3]) (And.intro p1 (And.intro p2 (nm_r (e' := upd bou ((5 + f) * 24 + t) (bou0 (f * 24 + t))) (by rw [c1, c2, o4]) (nm_r (nI_1 t) (ih (t + 1) fu _ _ _ _ (by omega) (by omega) ⟨fun g s hg hs => ?_, fun j hj => ?_⟩)))))))))
      · have := h24 g (by omega)
        by_cases y : g = f ∧ s = t
        · obtain ⟨rfl, rfl⟩ := y
          rw [pk_us, pk_us, pk_us, pk_us]
          exact ⟨rfl, w1, w2, rfl, rfl⟩
        · rw [pk_un (by omega), pk_un (by omega), pk_un (by omega), pk_un (by omega)]
          exact h.1 g s (by omega) hs
      · rw [pk_un (by omega), pk_un (by omega), pk_un (by omega), pk_un (by omega)]; exact h.2 j hj
    refine And.intro (pk_in f 11 (by omega)) ?_
    rw [nI_clamp (n := f) (by omega), hl]
    refine br_f (nI_ge (by omega) (by omega)) (nm_r (ix_24 f t) (nm_r e5 (And.intro p1 (And.intro p2 (nm_r (e' := upd ki ((5 + f) * 24 + t) (ki0 (f * 24 + t))) (by rw [c1, c2, o1]) (And.intro p1 ?_))))))
    rw [c1, pk_un (by omega), o1, o2]
    exact br_c (fun z => And.intro p1 (fin _ (fun _ => rfl) (fun y => absurd z y))) (fun z => And.intro p1 (fin _ (fun y => absurd y z) (fun _ => rfl)))
theorem x_kb2 {post : SX → Prop} {ln : Nat → Nat} {ki0 va0 spa0 bou0 len0 pc0 : Nat → Int32} (h24 : ∀ g, g < 5 → ln g ≤ 24) (hl0 : ∀ g, g < 5 → len0 g = nI (ln g))
    (hP : ∀ ki va spa bou len pc, kp_ok ln (fun g _ => g < 5) ki0 va0 spa0 bou0 ki va spa bou → (∀ g, g < 5 → len (5 + g) = len0 g ∧ pc (5 + g) = pc0 g) → (∀ j, j < 5 ∨ 10 ≤ j → len j = len0 j ∧ pc j = pc0 j) → post (f_saidPlace, f_instanceCount, f_nodeCount, f_equationCount, f_stackCount, f_wordCount, f_depth, f_cellCount, f_consCount, f_closureCount, f_stepCount, f_runAnswer, f_writtenCount, ki, va, spa, bou, a_binders, len, pc, a_typeCodes, a_typeLengths, a_instanceFunctions, a_nodeKinds, a_nodeLefts, a_nodeRights, a_nodeSizes, a_equationLefts, a_equationRights, a_stackLefts, a_stackRights, a_words, a_boundWords, a_cellFirsts, a_cellSeconds, a_closureTokens, a_closureWords, a_written)) :
    ∀ q f fu ki va spa bou len pc, f + q = 5 → q < fu → kp_ok ln (fun g _ => g < f) ki0 va0 spa0 bou0 ki va spa bou → (∀ g, g < f → len (5 + g) = len0 g ∧ pc (5 + g) = pc0 g) → (∀ j, j < 5 ∨ 10 ≤ j → len j = len0 j ∧ pc j = pc0 j) →
      wX_keepBodies_2 post f_saidPlace f_instanceCount f_nodeCount f_equationCount f_stackCount f_wordCount f_depth f_cellCount f_consCount f_closureCount f_stepCount f_runAnswer f_writtenCount fu (nI f) ki va spa bou a_binders len pc a_typeCodes a_typeLengths a_instanceFunctions a_nodeKinds a_nodeLefts a_nodeRights a_nodeSizes a_equationLefts a_equationRights a_stackLefts a_stackRights a_words a_boundWords a_cellFirsts a_cellSeconds a_closureTokens a_closureWords a_written := by
  intro q
  induction q with
  | zero =>
    intro f fu ki va spa bou len pc hf hfu h1 h2 h3
    obtain ⟨fu, rfl⟩ : ∃ g, fu = g + 1 := ⟨fu - 1, by omega⟩
    have e : f = 5 := by omega
    subst e
    exact br_t (nI_le (a := 5) (by omega) (by omega)) (hP ki va spa bou len pc h1 h2 h3)
  | succ q ih =>
    intro f fu ki va spa bou len pc hf hfu h1 h2 h3
    obtain ⟨fu, rfl⟩ : ∃ g, fu = g + 1 := ⟨fu - 1, by omega⟩
    have e5 : (5 : Int32) + nI f = nI (5 + f) := nI_add 5 f
    have c1 : (nI f).toNatClampNeg = f := nI_clamp (by omega)
    have c2 : (nI (5 + f)).toNatClampNeg = 5 + f := nI_clamp (by omega)
    obtain ⟨o1, o2⟩ := h3 f (by omega)
    have p1 : vp_in (nI f) 11 := pk_in f 11 (by omega)
    have p2 : vp_in (5 + nI f) 11 := pk_in (5 + f) 11 (by omega) e5
    refine br_f (nI_ge (b := 5) (by omega) (by omega)) (And.intro p1 (And.intro p2 (nm_r (e' := upd len (5 + f) (len0 f)) (by rw [e5, c1, c2, o1]) (And.intro p1 (And.intro p2 (nm_r (e' := upd pc (5 + f) (pc0 f)) (by rw [e5, c1, c2, o2]) (Exists.intro (ln f + 1) ?_)))))))
    refine x_kb37 (a_lengths := upd len (5 + f) (len0 f)) (ki0 := ki0) (va0 := va0) (spa0 := spa0) (bou0 := bou0) (ln := ln) (by omega) h24 (by rw [pk_un (by omega), o1]; exact hl0 f (by omega)) (fun ki' va' spa' bou' hk => ?_) (ln f) 0 (ln f + 1) ki va spa bou (by omega) (by omega) ⟨fun g s hg hs => h1.1 g s (by omega) hs, h1.2⟩
    refine ih (f + 1) fu ki' va' spa' bou' _ _ (by omega) (by omega) hk (fun g hg => ?_) (fun j hj => ?_)
    · by_cases z : g = f
      · rw [z, pk_us, pk_us]; exact ⟨rfl, rfl⟩
      · rw [pk_un (by omega), pk_un (by omega)]; exact h2 g (by omega)
    · rw [pk_un (by omega), pk_un (by omega)]; exact h3 j hj
theorem x_keepBodies {post : SX → Prop} {ln : Nat → Nat} (h24 : ∀ g, g < 5 → ln g ≤ 24) (hl0 : ∀ g, g < 5 → a_lengths g = nI (ln g))
    (hP : ∀ ki va spa bou len pc, kp_ok ln (fun g _ => g < 5) a_kinds a_values a_spans a_bounds ki va spa bou → (∀ g, g < 5 → len (5 + g) = a_lengths g ∧ pc (5 + g) = a_parameterCounts g) → (∀ j, j < 5 ∨ 10 ≤ j → len j = a_lengths j ∧ pc j = a_parameterCounts j) → post (f_saidPlace, f_instanceCount, f_nodeCount, f_equationCount, f_stackCount, f_wordCount, f_depth, f_cellCount, f_consCount, f_closureCount, f_stepCount, f_runAnswer, f_writtenCount, ki, va, spa, bou, a_binders, len, pc, a_typeCodes, a_typeLengths, a_instanceFunctions, a_nodeKinds, a_nodeLefts, a_nodeRights, a_nodeSizes, a_equationLefts, a_equationRights, a_stackLefts, a_stackRights, a_words, a_boundWords, a_cellFirsts, a_cellSeconds, a_closureTokens, a_closureWords, a_written)) : wpX_keepBodies post (f_saidPlace, f_instanceCount, f_nodeCount, f_equationCount, f_stackCount, f_wordCount, f_depth, f_cellCount, f_consCount, f_closureCount, f_stepCount, f_runAnswer, f_writtenCount, a_kinds, a_values, a_spans, a_bounds, a_binders, a_lengths, a_parameterCounts, a_typeCodes, a_typeLengths, a_instanceFunctions, a_nodeKinds, a_nodeLefts, a_nodeRights, a_nodeSizes, a_equationLefts, a_equationRights, a_stackLefts, a_stackRights, a_words, a_boundWords, a_cellFirsts, a_cellSeconds, a_closureTokens, a_closureWords, a_written) :=
  Exists.intro 6 (x_kb2 h24 hl0 hP 5 0 6 a_kinds a_values a_spans a_bounds a_lengths a_parameterCounts (by omega) (by omega) ⟨fun g s hg => by omega, fun _ _ => ⟨rfl, rfl, rfl, rfl⟩⟩ (fun g hg => by omega) (fun _ _ => ⟨rfl, rfl⟩))

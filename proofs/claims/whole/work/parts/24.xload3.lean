variable {f_saidPlace f_instanceCount f_nodeCount f_equationCount f_stackCount f_wordCount f_depth f_cellCount f_consCount f_closureCount f_stepCount f_runAnswer f_writtenCount : Int32} {a_kinds a_values a_spans a_bounds a_binders a_lengths a_parameterCounts a_typeCodes a_typeLengths a_instanceFunctions a_nodeKinds a_nodeLefts a_nodeRights a_nodeSizes a_equationLefts a_equationRights a_stackLefts a_stackRights a_words a_boundWords a_cellFirsts a_cellSeconds a_closureTokens a_closureWords a_written : Nat → Int32}
theorem lk_ext {K K' : Nat → Int32} {B : Nat} (h : ∀ n, n < B → K' n = K n) : ∀ m, lk_ct K B ≤ lk_ct K' (B + m) := by
  intro m
  induction m with
  | zero => rw [Nat.add_zero, lk_same B h]; exact Nat.le_refl _
  | succ m ih => show _ ≤ lk_ct K' (B + m) + _; omega
theorem lk_pos {K : Nat → Int32} {n : Nat} (h : K n = 5) : ∀ M, n < M → 1 ≤ lk_ct K M := by
  intro M
  induction M with
  | zero => intro z; omega
  | succ M ih =>
    intro z
    simp only [lk_ct]
    by_cases e : n = M
    · subst e; rw [if_pos h]; omega
    · have := ih (by omega); omega
theorem ld_fin {B : Nat} {Lc : List Nat} {tau : Nat → mt_T} {K nl nr K' nl' nr' sz' : Nat → Int32} {L R rt ds : Nat → Nat} (hg : xg_ok B K nl nr L R rt ds) (ht : tk_at Lc tau)
    (hlow : ∀ n, n < B → K' n = K n ∧ nl' n = nl n ∧ nr' n = nr n) (hin : ∀ j, j < Lc.length → ld_p B Lc tau K' nl' nr' sz' j) :
    ∃ L' R' rt' ds', xg_ok (B + Lc.length) K' nl' nr' L' R' rt' ds' ∧ (∀ n, n < B → L' n = L n ∧ R' n = R n) ∧ tl_is B (B + Lc.length) K' L' R' (fun n => tau (n - B)) ∧
      (∀ n v, B ≤ n → n < B + Lc.length → K' n = 10 → tau (n - B) = .leaf (10 + v) → B + cn_ix (10 + v) Lc = n) := by
  let L' : Nat → Nat := fun n => if n < B then L n else ld_l B Lc (n - B)
  let R' : Nat → Nat := fun n => if n < B then R n else ld_r B tau (n - B)
  have hLl : ∀ n, n < B → L' n = L n := fun n hn => if_pos hn
  have hRl : ∀ n, n < B → R' n = R n := fun n hn => if_pos hn
  have hLh : ∀ j, L' (B + j) = ld_l B Lc j := fun j => by show (if B + j < B then _ else ld_l B Lc (B + j - B)) = _; rw [if_neg (by omega), Nat.add_sub_cancel_left]
  have hRh : ∀ j, R' (B + j) = ld_r B tau j := fun j => by show (if B + j < B then _ else ld_r B tau (B + j - B)) = _; rw [if_neg (by omega), Nat.add_sub_cancel_left]
  -- the nodes of the row
  have node : ∀ j, j < Lc.length → (K' (B + j) = 0 ∧ tau j = .leaf 0) ∨ (K' (B + j) = 1 ∧ tau j = .leaf 1) ∨ (K' (B + j) = 10 ∧ nl' (B + j) = -1 ∧ tau j = .leaf (Lc.getD j 0) ∧ 10 ≤ Lc.getD j 0 ∧ cn_ix (Lc.getD j 0) Lc = j) ∨
      (K' (B + j) = 5 ∧ nl' (B + j) = nI (L' (B + j)) ∧ L' (B + j) = B + cn_ix (Lc.getD j 0) Lc ∧ tau j = .leaf (Lc.getD j 0) ∧ 10 ≤ Lc.getD j 0) ∨
      (K' (B + j) = 3 ∧ nl' (B + j) = nI (L' (B + j)) ∧ L' (B + j) = B + (j + 1) ∧ j + 1 < Lc.length ∧ tau j = .branch 3 (tau (j + 1)) (.leaf 0)) ∨
      ((K' (B + j) = 2 ∨ K' (B + j) = 4) ∧ nl' (B + j) = nI (L' (B + j)) ∧ L' (B + j) = B + (j + 1) ∧ nr' (B + j) = nI (R' (B + j)) ∧ R' (B + j) = B + (j + 1 + (mt_enc (tau (j + 1))).length) ∧ j + 1 + (mt_enc (tau (j + 1))).length < Lc.length ∧
        tau j = .branch (Lc.getD j 0) (tau (j + 1)) (tau (j + 1 + (mt_enc (tau (j + 1))).length)) ∧ K' (B + j) = nI (Lc.getD j 0)) := by
    intro j hj
    obtain ⟨p1, p2, p3, _⟩ := hin j hj
    have hk := p1
    unfold ld_k at hk
    have small : Lc.getD j 0 < 10 → ld_k Lc j = nI (Lc.getD j 0) := fun h => if_pos h
    rcases tk_c ht hj with ⟨z, tb⟩ | ⟨z, tb⟩ | ⟨z, tb⟩ | ⟨z, tb, tl⟩ | ⟨z, tb, tl⟩
    · left; rw [if_pos (by omega), z] at hk; exact ⟨hk, tb⟩
    · right; left; rw [if_pos (by omega), z] at hk; exact ⟨hk, tb⟩
    · rw [if_neg (by omega)] at hk
      by_cases q : cn_ix (Lc.getD j 0) Lc = j
      · right; right; left
        rw [if_pos q] at hk
        rw [← p1, hk, if_pos rfl] at p2
        exact ⟨hk, p2, tb, z, q⟩
      · right; right; right; left
        rw [if_neg q] at hk
        rw [← p1, hk, if_neg (by decide)] at p2
        refine ⟨hk, by rw [hLh]; exact p2, ?_, tb, z⟩
        rw [hLh, ld_l, if_neg (by omega)]
    · right; right; right; right; left
      rw [if_pos (by omega), z] at hk
      rw [← p1, hk, if_neg (by decide)] at p2
      refine ⟨hk, by rw [hLh]; exact p2, ?_, tl, tb⟩
      rw [hLh, ld_l, if_pos (by omega)]; omega
    · right; right; right; right; right
      have hlt : Lc.getD j 0 < 10 := by omega
      rw [if_pos hlt] at hk
      have h24 : K' (B + j) = 2 ∨ K' (B + j) = 4 := by
        rcases z with z | z
        · left; rw [hk, z]; rfl
        · right; rw [hk, z]; rfl
      have hne : ¬ ld_k Lc j = 10 := by
        rw [← p1]; rcases h24 with q | q <;> (rw [q]; decide)
      rw [if_neg hne] at p2
      refine ⟨h24, by rw [hLh]; exact p2, ?_, ?_, ?_, tl, tb, hk⟩
      · rw [hLh, ld_l, if_pos hlt]; omega
      · rw [hRh]; exact p3 (by rw [← p1]; exact h24)
      · rw [hRh, ld_r]; omega
  have link : ∀ j, j < Lc.length → K' (B + j) = 5 → ∃ i, i < Lc.length ∧ L' (B + j) = B + i ∧ K' (B + i) = 10 ∧ tau i = tau j := by
    intro j hj h5
    rcases node j hj with ⟨z, _⟩ | ⟨z, _⟩ | ⟨z, _⟩ | ⟨_, _, e, tb, hv⟩ | ⟨z, _⟩ | ⟨z, _⟩
    · rw [h5] at z; exact absurd z (by decide)
    · rw [h5] at z; exact absurd z (by decide)
    · rw [h5] at z; exact absurd z (by decide)
    · have hm := gd_mem Lc j hj
      have h1 := cn_ix_lt Lc hm
      have h2 := cn_ix_get Lc hm
      refine ⟨cn_ix (Lc.getD j 0) Lc, h1, e, ?_, ?_⟩
      · rw [(hin _ h1).1]; unfold ld_k; rw [h2, if_neg (by omega), if_pos rfl]
      · rcases tk_c ht h1 with ⟨q, _⟩ | ⟨q, _⟩ | ⟨_, q⟩ | ⟨q, _⟩ | ⟨q, _⟩
        · omega
        · omega
        · rw [q, h2, tb]
        · omega
        · omega
    · rw [h5] at z; exact absurd z (by decide)
    · rw [h5] at z; rcases z with z | z <;> exact absurd z (by decide)
  have split : ∀ n, n < B + Lc.length → n < B ∨ ∃ j, j < Lc.length ∧ n = B + j := by
    intro n hn
    rcases Nat.lt_or_ge n B with z | z
    · exact Or.inl z
    · exact Or.inr ⟨n - B, by omega, by omega⟩
  refine ⟨L', R', fun n => if n < B then rt n else if K' n = 5 then L' n else n, fun n => if n < B then ds n else if K' n = 5 then 1 else 0, ⟨fun n hn => ?_, fun n hn => ?_⟩, fun n hn => ⟨hLl n hn, hRl n hn⟩, fun n h1 h2 => ?_, fun n v h1 h2 hk he => ?_⟩
  · rcases split n hn with z | ⟨j, hj, rfl⟩
    · obtain ⟨q1, q2, q3⟩ := hlow n z
      obtain ⟨a1, a2, a3, a4⟩ := hg.1 n z
      rw [q1, q2, q3, hLl n z, hRl n z]
      exact ⟨a1, fun q => ⟨(a2 q).1, by have := (a2 q).2; omega⟩, fun q => ⟨(a3 q).1, by have := (a3 q).2; omega⟩, a4⟩
    · refine ⟨by rw [(hin j hj).1]; exact (ld_kd ht hj).1, ?_⟩
      rcases node j hj with ⟨z, _⟩ | ⟨z, _⟩ | ⟨z, zl, _⟩ | ⟨z, zl, e, _, _⟩ | ⟨z, zl, e, hl, _⟩ | ⟨z, zl, e, zr, er, hl, _⟩
      · rw [z]; exact ⟨fun q => q.elim (fun q => absurd q (by decide)) (fun q => absurd q (by unfold gr_lf; decide)), fun q => absurd q (by unfold gr_rg; decide), fun q => absurd q (by decide)⟩
      · rw [z]; exact ⟨fun q => q.elim (fun q => absurd q (by decide)) (fun q => absurd q (by unfold gr_lf; decide)), fun q => absurd q (by unfold gr_rg; decide), fun q => absurd q (by decide)⟩
      · rw [z]; exact ⟨fun q => q.elim (fun q => absurd q (by decide)) (fun q => absurd q nlf10), fun q => absurd q nrg10, fun _ => zl⟩
      · have := cn_ix_lt Lc (gd_mem Lc j hj)
        rw [z]; exact ⟨fun _ => ⟨zl, by omega⟩, fun q => absurd q (by unfold gr_rg; decide), fun q => absurd q (by decide)⟩
      · rw [z]; exact ⟨fun _ => ⟨zl, by omega⟩, fun q => absurd q nrg3, fun q => absurd q (by decide)⟩
      · refine ⟨fun _ => ⟨zl, by omega⟩, fun _ => ⟨zr, by omega⟩, fun q => ?_⟩
        rcases z with z | z <;> (rw [z] at q; exact absurd q (by decide))
  · rcases split n hn with z | ⟨j, hj, rfl⟩
    · obtain ⟨a1, a2, a3, a4, a5⟩ := hg.2 n z
      have hx := lk_ext (K := K) (K' := K') (B := B) (fun n hn => (hlow n hn).1) Lc.length
      simp only [if_pos z]
      rw [(hlow n z).1, (hlow _ a1).1, hLl n z]
      refine ⟨by omega, a2, a3, fun q => ?_, by omega⟩
      obtain ⟨b1, b2, b3⟩ := a4 q
      simp only [if_pos b1]
      exact ⟨by omega, b2, b3⟩
    · have hnb : ¬ B + j < B := by omega
      simp only [if_neg hnb]
      by_cases h5 : K' (B + j) = 5
      · obtain ⟨i, hi, e, hk, _⟩ := link j hj h5
        have hib : ¬ B + i < B := by omega
        have hp := lk_pos h5 (B + Lc.length) (by omega)
        simp only [if_pos h5]
        rw [e, hk]
        refine ⟨by omega, by decide, fun q => absurd h5 q, fun _ => ?_, by omega⟩
        simp only [if_neg hib, if_neg (show ¬ (10 : Int32) = 5 by decide)]
        exact ⟨by omega, by trivial, by trivial⟩
      · simp only [if_neg h5]
        exact ⟨by omega, h5, fun _ => ⟨by trivial, by trivial⟩, fun q => absurd q h5, by omega⟩
  · obtain ⟨j, hj, rfl⟩ : ∃ j, j < Lc.length ∧ n = B + j := ⟨n - B, by omega, by omega⟩
    have sb : ∀ i, B + i - B = i := fun i => by omega
    simp only [sb]
    refine ⟨(ht j hj).1, ?_⟩
    rcases node j hj with ⟨z, tb⟩ | ⟨z, tb⟩ | ⟨z, _, tb, hv, _⟩ | ⟨z, _, e, tb, _⟩ | ⟨z, _, e, hl, tb⟩ | ⟨z, _, e, _, er, hl, tb, hkc⟩
    · exact Or.inr (Or.inr (Or.inl ⟨z, tb⟩))
    · exact Or.inr (Or.inr (Or.inr (Or.inl ⟨z, tb⟩)))
    · exact Or.inl ⟨z, Lc.getD j 0 - 10, by rw [tb]; congr 1; omega⟩
    · obtain ⟨i, hi, e', hk, te⟩ := link j hj z
      refine Or.inr (Or.inl ⟨z, ?_⟩)
      rw [e', sb]
      exact ⟨by omega, by omega, te, hk⟩
    · refine Or.inr (Or.inr (Or.inr (Or.inr (Or.inl ⟨z, ?_⟩))))
      rw [e, sb]
      exact ⟨by omega, by omega, tb⟩
    · have hlt := mt_enc_ne (tau (j + 1))
      rcases z with z | z
      · refine Or.inr (Or.inr (Or.inr (Or.inr (Or.inr (Or.inl ⟨z, ?_⟩)))))
        have c2 : Lc.getD j 0 = 2 := by
          rcases tk_c ht hj with ⟨q, _⟩ | ⟨q, _⟩ | ⟨q, qt⟩ | ⟨q, _⟩ | ⟨q, _⟩
          · rw [hkc, q] at z; exact absurd z (by decide)
          · rw [hkc, q] at z; exact absurd z (by decide)
          · rw [tb] at qt; cases qt
          · rw [hkc, q] at z; exact absurd z (by decide)
          · rcases q with q | q
            · exact q
            · rw [hkc, q] at z; exact absurd z (by decide)
        rw [e, er, sb, sb]
        exact ⟨by omega, by omega, by omega, by omega, by rw [tb, c2]⟩
      · refine Or.inr (Or.inr (Or.inr (Or.inr (Or.inr (Or.inr ⟨z, ?_⟩)))))
        have c4 : Lc.getD j 0 = 4 := by
          rcases tk_c ht hj with ⟨q, _⟩ | ⟨q, _⟩ | ⟨q, qt⟩ | ⟨q, _⟩ | ⟨q, _⟩
          · rw [hkc, q] at z; exact absurd z (by decide)
          · rw [hkc, q] at z; exact absurd z (by decide)
          · rw [tb] at qt; cases qt
          · rw [hkc, q] at z; exact absurd z (by decide)
          · rcases q with q | q
            · rw [hkc, q] at z; exact absurd z (by decide)
            · exact q
        rw [e, er, sb, sb]
        exact ⟨by omega, by omega, by omega, by omega, by rw [tb, c4]⟩
  · obtain ⟨j, hj, rfl⟩ : ∃ j, j < Lc.length ∧ n = B + j := ⟨n - B, by omega, by omega⟩
    have sb : B + j - B = j := by omega
    rw [sb] at he
    rcases node j hj with ⟨z, _⟩ | ⟨z, _⟩ | ⟨_, _, tb, hv, hix⟩ | ⟨z, _⟩ | ⟨z, _⟩ | ⟨z, _⟩
    · rw [hk] at z; exact absurd z (by decide)
    · rw [hk] at z; exact absurd z (by decide)
    · rw [tb] at he
      simp only [Lean.RArray.leaf.injEq] at he
      rw [← he, hix]
    · rw [hk] at z; exact absurd z (by decide)
    · rw [hk] at z; exact absurd z (by decide)
    · rw [hk] at z; rcases z with z | z <;> exact absurd z (by decide)
theorem tk_pos_s : ∀ (ts : List mt_T) (p : Nat), p < ts.length → tk_pos ts (p + 1) = tk_pos ts p + (mt_enc (ts.getD p (.leaf 0))).length := by
  intro ts
  induction ts with
  | nil => intro p h; simp at h
  | cons t ts ih =>
    intro p h
    cases p with
    | zero => simp only [tk_pos, List.getD_cons_zero]; omega
    | succ p =>
      simp only [List.length_cons] at h
      rw [List.getD_cons_succ]
      show (mt_enc t).length + tk_pos ts (p + 1) = (mt_enc t).length + tk_pos ts p + _
      rw [ih p (by omega)]; omega
theorem tk_pos_lt : ∀ (ts : List mt_T) (p : Nat), p < ts.length → tk_pos ts p < (mt_encs ts).length := by
  intro ts
  induction ts with
  | nil => intro p h; simp at h
  | cons t ts ih =>
    intro p h
    have := mt_enc_ne t
    cases p with
    | zero => simp only [tk_pos, mt_encs, List.length_append]; omega
    | succ p =>
      simp only [List.length_cons] at h
      have := ih p (by omega)
      simp only [tk_pos, mt_encs, List.length_append]; omega
theorem tu_iff : ∀ (P : Nat) (ts : List mt_T) (f : Nat → mt_T) (x : mt_T) (s : Nat → mt_T), ts.length = P + 1 →
    ((List.range P).map f ++ [x] = ts.map (mt_sub s) ↔ (∀ j, j < P → f j = mt_sub s (ts.getD j (.leaf 0))) ∧ x = mt_sub s (ts.getD P (.leaf 0))) := by
  intro P
  induction P with
  | zero =>
    intro ts f x s h
    cases ts with
    | nil => simp at h
    | cons t ts =>
      cases ts with
      | nil => simp
      | cons u us => simp at h
  | succ P ih =>
    intro ts f x s h
    cases ts with
    | nil => simp at h
    | cons t ts =>
      simp only [List.length_cons] at h
      rw [List.range_succ_eq_map, List.map_cons, List.map_map, List.cons_append, List.map_cons, List.cons.injEq, ih ts (f ∘ Nat.succ) x s (by omega), List.getD_cons_succ]
      constructor
      · rintro ⟨a, b, c⟩
        refine ⟨fun j hj => ?_, c⟩
        cases j with
        | zero => exact a
        | succ j => rw [List.getD_cons_succ]; exact b j (by omega)
      · rintro ⟨a, c⟩
        refine ⟨a 0 (by omega), fun j hj => ?_, c⟩
        have := a (j + 1) (by omega)
        rw [List.getD_cons_succ] at this
        exact this

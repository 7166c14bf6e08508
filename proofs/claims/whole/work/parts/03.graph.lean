/-- what node n is, if the nodes that it names are r -/
def gr_at (K : Nat → Int32) (L R : Nat → Nat) (r : Nat → mt_T) (n : Nat) : mt_T :=
  if K n = 5 then r (L n) else if K n = 0 then .leaf 0 else if K n = 1 then .leaf 1 else if K n = 3 then .branch 3 (r (L n)) (.leaf 0)
  else if K n = 2 then .branch 2 (r (L n)) (r (R n)) else if K n = 4 then .branch 4 (r (L n)) (r (R n)) else r n
def gr_sat (N : Nat) (K : Nat → Int32) (L R : Nat → Nat) (r : Nat → mt_T) : Prop := ∀ n, n < N → r n = gr_at K L R r n
def gr_lf (k : Int32) : Prop := k = 3 ∨ k = 2 ∨ k = 4
def gr_rg (k : Int32) : Prop := k = 2 ∨ k = 4
/-- the nodes that n names -/
def gr_ch (K : Nat → Int32) (L R : Nat → Nat) (n m : Nat) : Prop := ((K n = 5 ∨ gr_lf (K n)) ∧ m = L n) ∨ (gr_rg (K n) ∧ m = R n)
theorem gr_at_congr {K : Nat → Int32} {L R : Nat → Nat} {r r' : Nat → mt_T} {n : Nat} (h : ∀ m, gr_ch K L R n m → r m = r' m) (hv : r n = r' n) :
    gr_at K L R r n = gr_at K L R r' n := by
  unfold gr_at
  by_cases h5 : K n = 5
  · rw [if_pos h5, if_pos h5]; exact h _ (Or.inl ⟨Or.inl h5, rfl⟩)
  · rw [if_neg h5, if_neg h5]
    by_cases h0 : K n = 0
    · rw [if_pos h0, if_pos h0]
    · rw [if_neg h0, if_neg h0]
      by_cases h1 : K n = 1
      · rw [if_pos h1, if_pos h1]
      · rw [if_neg h1, if_neg h1]
        by_cases h3 : K n = 3
        · rw [if_pos h3, if_pos h3, h _ (Or.inl ⟨Or.inr (Or.inl h3), rfl⟩)]
        · rw [if_neg h3, if_neg h3]
          by_cases h2 : K n = 2
          · rw [if_pos h2, if_pos h2, h _ (Or.inl ⟨Or.inr (Or.inr (Or.inl h2)), rfl⟩), h _ (Or.inr ⟨Or.inl h2, rfl⟩)]
          · rw [if_neg h2, if_neg h2]
            by_cases h4 : K n = 4
            · rw [if_pos h4, if_pos h4, h _ (Or.inl ⟨Or.inr (Or.inr (Or.inr h4)), rfl⟩), h _ (Or.inr ⟨Or.inr h4, rfl⟩)]
            · rw [if_neg h4, if_neg h4, hv]
theorem gr_at_wf {K : Nat → Int32} {L R : Nat → Nat} {r : Nat → mt_T} (hr : ∀ n, mt_wf (r n)) (n : Nat) : mt_wf (gr_at K L R r n) := by
  unfold gr_at
  split
  · exact hr _
  · split
    · exact mt_wf0
    · split
      · exact mt_wf1
      · split
        · exact Or.inl ⟨rfl, hr _, rfl⟩
        · split
          · exact Or.inr ⟨Or.inl rfl, hr _, hr _⟩
          · split
            · exact Or.inr ⟨Or.inr rfl, hr _, hr _⟩
            · exact hr _
theorem gr_at_sub {K : Nat → Int32} {L R : Nat → Nat} {r : Nat → mt_T} (s : Nat → mt_T) (n : Nat) :
    gr_at K L R (fun m => mt_sub s (r m)) n = mt_sub s (gr_at K L R r n) := by
  have z0 : mt_sub s (.leaf 0) = .leaf 0 := by rw [mt_sub, if_pos (by omega)]
  have z1 : mt_sub s (.leaf 1) = .leaf 1 := by rw [mt_sub, if_pos (by omega)]
  unfold gr_at
  split
  · rfl
  · split
    · exact z0.symm
    · split
      · exact z1.symm
      · split
        · rw [mt_sub, z0]
        · split
          · rw [mt_sub]
          · split
            · rw [mt_sub]
            · rfl
/-- kinds that a node may have -/
def gr_kd (k : Int32) : Prop := k = 0 ∨ k = 1 ∨ k = 2 ∨ k = 3 ∨ k = 4 ∨ k = 5 ∨ k = 10
/-- P: nodes that are measured already, each with its tree c -/
def gr_M (N : Nat) (K : Nat → Int32) (L R : Nat → Nat) (P : Nat → Prop) (c : Nat → mt_T) : Prop :=
  (∀ n, mt_wf (c n)) ∧ ∀ n, n < N → P n → (K n = 10 → c n = .leaf (10 + n)) ∧ (K n ≠ 10 → c n = gr_at K L R c n) ∧ (∀ m, gr_ch K L R n m → m < N ∧ P m) ∧
    (∀ r : Nat → mt_T, gr_sat N K L R r → r n = mt_sub r (c n))
theorem gr_sub_at {N : Nat} {K : Nat → Int32} {L R : Nat → Nat} {P : Nat → Prop} {c r : Nat → mt_T} (h : gr_M N K L R P c) {n : Nat} (hn : n < N)
    (hc : ∀ m, gr_ch K L R n m → m < N ∧ P m) (hv : K n ≠ 10) (hk : gr_kd (K n)) (hr : gr_sat N K L R r) : r n = mt_sub r (gr_at K L R c n) := by
  rw [← gr_at_sub, hr n hn]
  have hm : ∀ m, gr_ch K L R n m → r m = mt_sub r (c m) := fun m hm => (h.2 m (hc m hm).1 (hc m hm).2).2.2.2 r hr
  unfold gr_at
  by_cases h5 : K n = 5
  · rw [if_pos h5, if_pos h5]; exact hm _ (Or.inl ⟨Or.inl h5, rfl⟩)
  · rw [if_neg h5, if_neg h5]
    by_cases h0 : K n = 0
    · rw [if_pos h0, if_pos h0]
    · rw [if_neg h0, if_neg h0]
      by_cases h1 : K n = 1
      · rw [if_pos h1, if_pos h1]
      · rw [if_neg h1, if_neg h1]
        by_cases h3 : K n = 3
        · rw [if_pos h3, if_pos h3, hm _ (Or.inl ⟨Or.inr (Or.inl h3), rfl⟩)]
        · rw [if_neg h3, if_neg h3]
          by_cases h2 : K n = 2
          · rw [if_pos h2, if_pos h2, hm _ (Or.inl ⟨Or.inr (Or.inr (Or.inl h2)), rfl⟩), hm _ (Or.inr ⟨Or.inl h2, rfl⟩)]
          · rw [if_neg h2, if_neg h2]
            by_cases h4 : K n = 4
            · rw [if_pos h4, if_pos h4, hm _ (Or.inl ⟨Or.inr (Or.inr (Or.inr h4)), rfl⟩), hm _ (Or.inr ⟨Or.inr h4, rfl⟩)]
            · exfalso
              rcases hk with z | z | z | z | z | z | z <;> contradiction
def gr_put (c : Nat → mt_T) (n : Nat) (t : mt_T) : Nat → mt_T := fun j => if j = n then t else c j
theorem gr_put_eq {c : Nat → mt_T} {n : Nat} {t : mt_T} : gr_put c n t n = t := if_pos rfl
theorem gr_put_ne {c : Nat → mt_T} {n j : Nat} {t : mt_T} (h : j ≠ n) : gr_put c n t j = c j := if_neg h
/-- the tree of a node whose children are measured -/
def gr_nx (K : Nat → Int32) (L R : Nat → Nat) (c : Nat → mt_T) (n : Nat) : mt_T := if K n = 10 then .leaf (10 + n) else gr_at K L R c n
theorem gr_M_step {N : Nat} {K : Nat → Int32} {L R : Nat → Nat} {P : Nat → Prop} {c : Nat → mt_T} (h : gr_M N K L R P c) {n : Nat} (hn : n < N) (hP : ¬ P n)
    (hc : ∀ m, gr_ch K L R n m → m < N ∧ P m) (hk : gr_kd (K n)) : gr_M N K L R (fun j => P j ∨ j = n) (gr_put c n (gr_nx K L R c n)) := by
  have hat : ∀ j, j < N → P j → gr_at K L R (gr_put c n (gr_nx K L R c n)) j = gr_at K L R c j := by
    intro j hj hPj
    refine gr_at_congr (fun m hm => gr_put_ne ?_) (gr_put_ne ?_)
    · intro e; subst e; exact hP ((h.2 j hj hPj).2.2.1 m hm).2
    · intro e; subst e; exact hP hPj
  have hat' : gr_at K L R (gr_put c n (gr_nx K L R c n)) n = gr_at K L R c n ∨ K n = 10 := by
    by_cases hv : K n = 10
    · exact Or.inr hv
    · left
      have hself : ∀ m, gr_ch K L R n m → m ≠ n := by
        intro m hm e; subst e; exact hP (hc m hm).2
      unfold gr_at
      by_cases h5 : K n = 5
      · rw [if_pos h5, if_pos h5]; exact gr_put_ne (hself _ (Or.inl ⟨Or.inl h5, rfl⟩))
      · rw [if_neg h5, if_neg h5]
        by_cases h0 : K n = 0
        · rw [if_pos h0, if_pos h0]
        · rw [if_neg h0, if_neg h0]
          by_cases h1 : K n = 1
          · rw [if_pos h1, if_pos h1]
          · rw [if_neg h1, if_neg h1]
            by_cases h3 : K n = 3
            · rw [if_pos h3, if_pos h3, gr_put_ne (hself _ (Or.inl ⟨Or.inr (Or.inl h3), rfl⟩))]
            · rw [if_neg h3, if_neg h3]
              by_cases h2 : K n = 2
              · rw [if_pos h2, if_pos h2, gr_put_ne (hself _ (Or.inl ⟨Or.inr (Or.inr (Or.inl h2)), rfl⟩)), gr_put_ne (hself _ (Or.inr ⟨Or.inl h2, rfl⟩))]
              · rw [if_neg h2, if_neg h2]
                by_cases h4 : K n = 4
                · rw [if_pos h4, if_pos h4, gr_put_ne (hself _ (Or.inl ⟨Or.inr (Or.inr (Or.inr h4)), rfl⟩)), gr_put_ne (hself _ (Or.inr ⟨Or.inr h4, rfl⟩))]
                · exfalso
                  rcases hk with z | z | z | z | z | z | z <;> contradiction
  refine ⟨?_, ?_⟩
  · intro j
    by_cases e : j = n
    · subst e; rw [gr_put_eq]
      unfold gr_nx
      split
      · exact mt_wfv _
      · exact gr_at_wf h.1 _
    · rw [gr_put_ne e]; exact h.1 j
  · intro j hj hPj
    by_cases e : j = n
    · subst e
      rw [gr_put_eq]
      refine ⟨fun hv => by rw [gr_nx, if_pos hv], fun hv => ?_, fun m hm => ⟨(hc m hm).1, Or.inl (hc m hm).2⟩, fun r hr => ?_⟩
      · rcases hat' with z | z
        · rw [z, gr_nx, if_neg hv]
        · exact absurd z hv
      · by_cases hv : K j = 10
        · rw [gr_nx, if_pos hv, mt_sub, if_neg (by omega)]; congr 1; omega
        · rw [gr_nx, if_neg hv]; exact gr_sub_at h hj hc hv hk hr
    · have hPj' : P j := by rcases hPj with z | z; exact z; exact absurd z e
      obtain ⟨a, b, d, f⟩ := h.2 j hj hPj'
      rw [gr_put_ne e]
      exact ⟨a, fun hv => by rw [hat j hj hPj']; exact b hv, fun m hm => ⟨(d m hm).1, Or.inl (d m hm).2⟩, f⟩
theorem gr_M_0 {N : Nat} {K : Nat → Int32} {L R : Nat → Nat} {P : Nat → Prop} (hP : ∀ n, n < N → ¬ P n) : gr_M N K L R P (fun _ => .leaf 0) :=
  ⟨fun _ => mt_wf0, fun n hn h => absurd h (hP n hn)⟩
/-- all measured: the trees are a most general solution -/
theorem gr_M_mg {N : Nat} {K : Nat → Int32} {L R : Nat → Nat} {P : Nat → Prop} {c : Nat → mt_T} (h : gr_M N K L R P c) (hP : ∀ n, n < N → P n)
    (hk : ∀ n, n < N → gr_kd (K n)) : mg_is N (gr_sat N K L R) c := by
  refine ⟨h.1, fun s hs n hn => ?_, fun r hr hS => ⟨r, hr, fun n hn => (h.2 n hn (hP n hn)).2.2.2 r hS⟩⟩
  rw [gr_at_sub]
  by_cases hv : K n = 10
  · have : gr_at K L R c n = c n := by
      unfold gr_at
      rw [hv]
      rw [if_neg (by decide), if_neg (by decide), if_neg (by decide), if_neg (by decide), if_neg (by decide), if_neg (by decide)]
    rw [this]
  · rw [← (h.2 n hn (hP n hn)).2.1 hv]
/-- a node that names no leaf and whose tree is smaller: sizes fall from a node to what it names, but for a link -/
theorem gr_fall {N : Nat} {K : Nat → Int32} {L R : Nat → Nat} {r : Nat → mt_T} (hr : gr_sat N K L R r) {n m : Nat} (hn : n < N) (h : gr_ch K L R n m) :
    (K n = 5 ∧ m = L n ∧ mt_sz (r m) = mt_sz (r n)) ∨ (K n ≠ 5 ∧ mt_sz (r m) < mt_sz (r n)) := by
  have e := hr n hn
  unfold gr_at at e
  by_cases h5 : K n = 5
  · left
    rw [if_pos h5] at e
    rcases h with ⟨_, z⟩ | ⟨z, _⟩
    · exact ⟨h5, z, by rw [z, e]⟩
    · exfalso; rw [h5] at z; rcases z with z | z <;> exact absurd z (by decide)
  · right
    refine ⟨h5, ?_⟩
    rw [if_neg h5] at e
    have hl : gr_lf (K n) ∧ m = L n ∨ gr_rg (K n) ∧ m = R n := by
      rcases h with ⟨z | z, w⟩ | z
      · exact absurd z h5
      · exact Or.inl ⟨z, w⟩
      · exact Or.inr z
    have h0 : ¬ K n = 0 := by
      intro z; rw [z] at hl
      rcases hl with ⟨q, _⟩ | ⟨q, _⟩
      · rcases q with q | q | q <;> exact absurd q (by decide)
      · rcases q with q | q <;> exact absurd q (by decide)
    have h1 : ¬ K n = 1 := by
      intro z; rw [z] at hl
      rcases hl with ⟨q, _⟩ | ⟨q, _⟩
      · rcases q with q | q | q <;> exact absurd q (by decide)
      · rcases q with q | q <;> exact absurd q (by decide)
    rw [if_neg h0, if_neg h1] at e
    by_cases h3 : K n = 3
    · rw [if_pos h3] at e
      rcases hl with ⟨_, q⟩ | ⟨q, _⟩
      · rw [e, q]; simp only [mt_sz]; omega
      · rw [h3] at q; rcases q with q | q <;> exact absurd q (by decide)
    · rw [if_neg h3] at e
      by_cases h2 : K n = 2
      · rw [if_pos h2] at e
        rcases hl with ⟨_, q⟩ | ⟨_, q⟩ <;> (rw [e, q]; simp only [mt_sz]; omega)
      · rw [if_neg h2] at e
        have h4 : K n = 4 := by
          rcases hl with ⟨q, _⟩ | ⟨q, _⟩
          · rcases q with q | q | q
            · exact absurd q h3
            · exact absurd q h2
            · exact q
          · rcases q with q | q
            · exact absurd q h2
            · exact q
        rw [if_pos h4] at e
        rcases hl with ⟨_, q⟩ | ⟨_, q⟩ <;> (rw [e, q]; simp only [mt_sz]; omega)

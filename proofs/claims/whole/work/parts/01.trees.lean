/-- a type as a tree: leaf 0 INT, leaf 1 BOOL, leaf (10 + k) a variable, branch 2 PAIR, branch 4 ARROW, branch 3 LIST (its right is leaf 0) -/
abbrev mt_T := Lean.RArray Nat
def mt_enc : mt_T → List Nat
  | .leaf n => [n]
  | .branch c a b => c :: (mt_enc a ++ (if c = 3 then [] else mt_enc b))
def mt_encs : List mt_T → List Nat
  | [] => []
  | t :: ts => mt_enc t ++ mt_encs ts
def mt_sub (s : Nat → mt_T) : mt_T → mt_T
  | .leaf n => if n < 10 then .leaf n else s (n - 10)
  | .branch c a b => .branch c (mt_sub s a) (mt_sub s b)
def mt_wf : mt_T → Prop
  | .leaf n => n = 0 ∨ n = 1 ∨ 10 ≤ n
  | .branch c a b => (c = 3 ∧ mt_wf a ∧ b = .leaf 0) ∨ ((c = 2 ∨ c = 4) ∧ mt_wf a ∧ mt_wf b)
def mt_sz : mt_T → Nat
  | .leaf _ => 1
  | .branch _ a b => mt_sz a + mt_sz b + 1
theorem mt_enc_ne (t : mt_T) : 0 < (mt_enc t).length := by
  cases t <;> simp [mt_enc]
theorem mt_wf0 : mt_wf (.leaf 0) := Or.inl rfl
theorem mt_wf1 : mt_wf (.leaf 1) := Or.inr (Or.inl rfl)
theorem mt_wfv (v : Nat) : mt_wf (.leaf (10 + v)) := Or.inr (Or.inr (by omega))
theorem mt_wf_ind {P : mt_T → Prop} (h0 : ∀ n, (n = 0 ∨ n = 1 ∨ 10 ≤ n) → P (.leaf n))
    (h2 : ∀ c a b, (c = 2 ∨ c = 4) → mt_wf a → mt_wf b → P a → P b → P (.branch c a b))
    (h3 : ∀ a, mt_wf a → P a → P (.branch 3 a (.leaf 0))) : ∀ t, mt_wf t → P t := by
  intro t
  induction t with
  | leaf n => intro h; exact h0 n h
  | branch c a b iha ihb =>
    intro h
    rcases h with ⟨rfl, ha, rfl⟩ | ⟨hc, ha, hb⟩
    · exact h3 a ha (iha ha)
    · exact h2 c a b hc ha hb (iha ha) (ihb hb)
/-- the codes tell the tree and where it ends -/
theorem mt_dec : ∀ t, mt_wf t → ∀ u x y, mt_wf u → mt_enc t ++ x = mt_enc u ++ y → t = u ∧ x = y := by
  apply mt_wf_ind
  · intro n hn u x y hu h
    cases u with
    | leaf m => simp only [mt_enc, List.cons_append, List.nil_append, List.cons.injEq] at h; exact ⟨by rw [h.1], h.2⟩
    | branch c a b =>
      simp only [mt_enc, List.cons_append, List.nil_append, List.cons.injEq] at h
      rcases hu with ⟨hc, _, _⟩ | ⟨hc, _, _⟩ <;> omega
  · intro c a b hc ha hb iha ihb u x y hu h
    cases u with
    | leaf m =>
      simp only [mt_enc, List.cons_append, List.nil_append, List.cons.injEq] at h
      rcases hu with hu | hu | hu <;> omega
    | branch c' a' b' =>
      have h3 : ¬ c = 3 := by omega
      rcases hu with ⟨hc', ha', hb'⟩ | ⟨hc', ha', hb'⟩
      · simp only [mt_enc, List.cons_append, List.cons.injEq] at h; omega
      · have h3' : ¬ c' = 3 := by omega
        simp only [mt_enc, if_neg h3, if_neg h3', List.cons_append, List.cons.injEq, List.append_assoc] at h
        obtain ⟨rfl, h⟩ := h
        obtain ⟨e1, h1⟩ := iha _ _ _ ha' h
        obtain ⟨e2, h2⟩ := ihb _ _ _ hb' h1
        exact ⟨by rw [e1, e2], h2⟩
  · intro a ha iha u x y hu h
    cases u with
    | leaf m =>
      simp only [mt_enc, List.cons_append, List.nil_append, List.cons.injEq] at h
      rcases hu with hu | hu | hu <;> omega
    | branch c' a' b' =>
      rcases hu with ⟨hc', ha', hb'⟩ | ⟨hc', ha', hb'⟩
      · subst hc'; subst hb'
        simp only [mt_enc, if_true, List.append_nil, List.cons_append, List.cons.injEq, true_and] at h
        obtain ⟨e1, h1⟩ := iha _ _ _ ha' h
        exact ⟨by rw [e1], h1⟩
      · simp only [mt_enc, List.cons_append, List.cons.injEq] at h; omega
theorem mt_decs : ∀ ts us : List mt_T, (∀ t ∈ ts, mt_wf t) → (∀ u ∈ us, mt_wf u) → mt_encs ts = mt_encs us → ts = us := by
  intro ts
  induction ts with
  | nil =>
    intro us _ _ h
    cases us with
    | nil => rfl
    | cons u us =>
      exfalso
      have h1 := congrArg List.length h
      have h2 := mt_enc_ne u
      simp only [mt_encs, List.length_nil, List.length_append] at h1
      omega
  | cons t ts ih =>
    intro us ht hu h
    cases us with
    | nil =>
      exfalso
      have h1 := congrArg List.length h
      have h2 := mt_enc_ne t
      simp only [mt_encs, List.length_nil, List.length_append] at h1
      omega
    | cons u us =>
      simp only [mt_encs] at h
      obtain ⟨e1, h1⟩ := mt_dec t (ht t (by simp)) u _ _ (hu u (by simp)) h
      rw [e1, ih us (fun x hx => ht x (by simp [hx])) (fun x hx => hu x (by simp [hx])) h1]
theorem mt_sub_wf {s : Nat → mt_T} (hs : ∀ v, mt_wf (s v)) : ∀ t, mt_wf t → mt_wf (mt_sub s t) := by
  apply mt_wf_ind
  · intro n hn
    by_cases h : n < 10
    · rw [mt_sub, if_pos h]; exact hn
    · rw [mt_sub, if_neg h]; exact hs _
  · intro c a b hc _ _ ia ib
    exact Or.inr ⟨hc, ia, ib⟩
  · intro a _ ia
    exact Or.inl ⟨rfl, ia, by rw [mt_sub, if_pos (by omega)]⟩
theorem mt_sub_sub (s s' : Nat → mt_T) : ∀ t, mt_sub s (mt_sub s' t) = mt_sub (fun v => mt_sub s (s' v)) t := by
  intro t
  induction t with
  | leaf n =>
    by_cases h : n < 10
    · simp only [mt_sub, if_pos h]
    · simp only [mt_sub, if_neg h]
  | branch c a b ia ib => simp only [mt_sub, ia, ib]
theorem mt_sub_id : ∀ t, mt_sub (fun v => .leaf (10 + v)) t = t := by
  intro t
  induction t with
  | leaf n =>
    by_cases h : n < 10
    · simp only [mt_sub, if_pos h]
    · simp only [mt_sub, if_neg h]; congr 1; omega
  | branch c a b ia ib => simp only [mt_sub, ia, ib]
theorem mt_sub_len (s : Nat → mt_T) : ∀ t, (mt_enc t).length ≤ (mt_enc (mt_sub s t)).length := by
  intro t
  induction t with
  | leaf n => have h := mt_enc_ne (mt_sub s (.leaf n)); simp only [mt_enc, List.length_cons, List.length_nil]; omega
  | branch c a b ia ib =>
    by_cases h : c = 3
    · simp only [mt_sub, mt_enc, if_pos h, List.append_nil, List.length_cons]; omega
    · simp only [mt_sub, mt_enc, if_neg h, List.length_append, List.length_cons]; omega
theorem mt_sub_congr {s s' : Nat → mt_T} : ∀ t, mt_wf t → (∀ v, 10 + v ∈ mt_enc t → s v = s' v) → mt_sub s t = mt_sub s' t := by
  apply mt_wf_ind
  · intro n hn h
    by_cases hl : n < 10
    · simp only [mt_sub, if_pos hl]
    · simp only [mt_sub, if_neg hl]
      exact h _ (by simp only [mt_enc, List.mem_singleton]; omega)
  · intro c a b hc _ _ ia ib h
    have h3 : ¬ c = 3 := by omega
    simp only [mt_sub]
    rw [ia (fun v hv => h v (by simp only [mt_enc, if_neg h3, List.mem_cons, List.mem_append]; exact Or.inr (Or.inl hv))),
      ib (fun v hv => h v (by simp only [mt_enc, if_neg h3, List.mem_cons, List.mem_append]; exact Or.inr (Or.inr hv)))]
  · intro a _ ia h
    simp only [mt_sub]
    rw [ia (fun v hv => h v (by simp only [mt_enc, if_true, List.append_nil, List.mem_cons]; exact Or.inr hv))]
    simp
theorem mt_sub_inj {s s' : Nat → mt_T} : ∀ t, mt_wf t → mt_sub s t = mt_sub s' t → ∀ v, 10 + v ∈ mt_enc t → s v = s' v := by
  apply mt_wf_ind
  · intro n hn h v hv
    simp only [mt_enc, List.mem_singleton] at hv
    have hl : ¬ n < 10 := by omega
    simp only [mt_sub, if_neg hl] at h
    have : v = n - 10 := by omega
    rw [this]; exact h
  · intro c a b hc _ _ ia ib h v hv
    have h3 : ¬ c = 3 := by omega
    simp only [mt_sub, Lean.RArray.branch.injEq, true_and] at h
    simp only [mt_enc, if_neg h3, List.mem_cons, List.mem_append] at hv
    rcases hv with hv | hv | hv
    · omega
    · exact ia h.1 v hv
    · exact ib h.2 v hv
  · intro a _ ia h v hv
    simp only [mt_sub, Lean.RArray.branch.injEq, true_and] at h
    simp only [mt_enc, if_true, List.append_nil, List.mem_cons] at hv
    rcases hv with hv | hv
    · omega
    · exact ia h.1 v hv
/-- a renaming of variables renames the codes -/
def mt_rn (g : Nat → Nat) (c : Nat) : Nat := if c < 10 then c else g (c - 10)
theorem mt_enc_rn {s : Nat → mt_T} {g : Nat → Nat} : ∀ t, mt_wf t → (∀ v, 10 + v ∈ mt_enc t → s v = .leaf (g v)) → mt_enc (mt_sub s t) = (mt_enc t).map (mt_rn g) := by
  apply mt_wf_ind
  · intro n hn h
    by_cases hl : n < 10
    · simp only [mt_sub, if_pos hl, mt_enc, List.map_cons, List.map_nil, mt_rn]
    · have h1 := h (n - 10) (by simp only [mt_enc, List.mem_singleton]; omega)
      simp only [mt_sub, if_neg hl, mt_enc, List.map_cons, List.map_nil, mt_rn, h1]
  · intro c a b hc _ _ ia ib h
    have h3 : ¬ c = 3 := by omega
    have hl : c < 10 := by omega
    have ia' := ia (fun v hv => h v (by simp only [mt_enc, if_neg h3, List.mem_cons, List.mem_append]; exact Or.inr (Or.inl hv)))
    have ib' := ib (fun v hv => h v (by simp only [mt_enc, if_neg h3, List.mem_cons, List.mem_append]; exact Or.inr (Or.inr hv)))
    simp only [mt_sub, mt_enc, if_neg h3, ia', ib', List.map_cons, List.map_append, mt_rn, if_pos hl]
  · intro a _ ia h
    have ia' := ia (fun v hv => h v (by simp only [mt_enc, if_true, List.append_nil, List.mem_cons]; exact Or.inr hv))
    simp only [mt_sub, mt_enc, if_true, List.append_nil, ia', List.map_cons, mt_rn]
    simp
/-- variables numbered as they appear -/
def cn_ix (c : Nat) : List Nat → Nat
  | [] => 0
  | v :: vs => if v = c then 0 else cn_ix c vs + 1
def cn_go : List Nat → List Nat → List Nat
  | _, [] => []
  | vs, c :: cs => if c < 10 then c :: cn_go vs cs else if c ∈ vs then (10 + cn_ix c vs) :: cn_go vs cs else (10 + vs.length) :: cn_go (vs ++ [c]) cs
def cn_seen : List Nat → List Nat → List Nat
  | vs, [] => vs
  | vs, c :: cs => if c < 10 then cn_seen vs cs else if c ∈ vs then cn_seen vs cs else cn_seen (vs ++ [c]) cs
theorem cn_ix_app {c : Nat} : ∀ vs ws : List Nat, c ∈ vs → cn_ix c (vs ++ ws) = cn_ix c vs := by
  intro vs
  induction vs with
  | nil => intro ws h; simp at h
  | cons v vs ih =>
    intro ws h
    by_cases e : v = c
    · simp only [List.cons_append, cn_ix, if_pos e]
    · simp only [List.cons_append, cn_ix, if_neg e]
      rw [ih ws (by simp only [List.mem_cons] at h; rcases h with h | h; exact absurd h.symm e; exact h)]
theorem cn_ix_new {c : Nat} : ∀ vs ws : List Nat, ¬ c ∈ vs → cn_ix c (vs ++ c :: ws) = vs.length := by
  intro vs
  induction vs with
  | nil => intro ws _; simp [cn_ix]
  | cons v vs ih =>
    intro ws h
    simp only [List.mem_cons, not_or] at h
    simp only [List.cons_append, cn_ix, if_neg (fun e : v = c => h.1 e.symm), List.length_cons]
    rw [ih ws h.2]
theorem cn_seen_app : ∀ cs vs : List Nat, ∃ ws, cn_seen vs cs = vs ++ ws := by
  intro cs
  induction cs with
  | nil => intro vs; exact ⟨[], by simp [cn_seen]⟩
  | cons c cs ih =>
    intro vs
    by_cases h : c < 10
    · obtain ⟨ws, e⟩ := ih vs; exact ⟨ws, by rw [cn_seen, if_pos h, e]⟩
    · by_cases m : c ∈ vs
      · obtain ⟨ws, e⟩ := ih vs; exact ⟨ws, by rw [cn_seen, if_neg h, if_pos m, e]⟩
      · obtain ⟨ws, e⟩ := ih (vs ++ [c]); exact ⟨c :: ws, by rw [cn_seen, if_neg h, if_neg m, e]; simp⟩
theorem cn_go_map : ∀ cs vs : List Nat, cn_go vs cs = cs.map (mt_rn (fun v => 10 + cn_ix (10 + v) (cn_seen vs cs))) := by
  intro cs
  induction cs with
  | nil => intro vs; simp [cn_go]
  | cons c cs ih =>
    intro vs
    by_cases h : c < 10
    · simp only [cn_go, cn_seen, if_pos h, List.map_cons, mt_rn]
      rw [ih vs]
    · have hc : 10 + (c - 10) = c := by omega
      by_cases m : c ∈ vs
      · simp only [cn_go, cn_seen, if_neg h, if_pos m, List.map_cons, mt_rn, hc]
        obtain ⟨ws, e⟩ := cn_seen_app cs vs
        rw [ih vs, e, cn_ix_app vs ws m]
      · simp only [cn_go, cn_seen, if_neg h, if_neg m, List.map_cons, mt_rn, hc]
        obtain ⟨ws, e⟩ := cn_seen_app cs (vs ++ [c])
        rw [ih (vs ++ [c]), e, List.append_assoc, List.singleton_append, cn_ix_new vs ws m]
theorem cn_seen_mem : ∀ cs vs : List Nat, ∀ c, ¬ c < 10 → (c ∈ cs ∨ c ∈ vs) → c ∈ cn_seen vs cs := by
  intro cs
  induction cs with
  | nil => intro vs c _ h; simpa [cn_seen] using h
  | cons d cs ih =>
    intro vs c hc h
    by_cases hd : d < 10
    · rw [cn_seen, if_pos hd]
      refine ih vs c hc ?_
      rcases h with h | h
      · simp only [List.mem_cons] at h
        rcases h with h | h
        · omega
        · exact Or.inl h
      · exact Or.inr h
    · by_cases m : d ∈ vs
      · rw [cn_seen, if_neg hd, if_pos m]
        refine ih vs c hc ?_
        rcases h with h | h
        · simp only [List.mem_cons] at h
          rcases h with h | h
          · exact Or.inr (h ▸ m)
          · exact Or.inl h
        · exact Or.inr h
      · rw [cn_seen, if_neg hd, if_neg m]
        refine ih _ c hc ?_
        rcases h with h | h
        · simp only [List.mem_cons] at h
          rcases h with h | h
          · exact Or.inr (by simp [h])
          · exact Or.inl h
        · exact Or.inr (by simp [h])
theorem cn_ix_get {c : Nat} : ∀ vs : List Nat, c ∈ vs → vs.getD (cn_ix c vs) 0 = c := by
  intro vs
  induction vs with
  | nil => intro h; simp at h
  | cons v vs ih =>
    intro h
    by_cases e : v = c
    · simp [cn_ix, e]
    · simp only [List.mem_cons] at h
      rcases h with h | h
      · exact absurd h.symm e
      · simp only [cn_ix, if_neg e, List.getD_cons_succ]; exact ih h
theorem cn_ix_inj {c d : Nat} {vs : List Nat} (hc : c ∈ vs) (hd : d ∈ vs) (h : cn_ix c vs = cn_ix d vs) : c = d := by
  rw [← cn_ix_get vs hc, ← cn_ix_get vs hd, h]
theorem cn_ix_f {f : Nat → Nat} {c : Nat} : ∀ vs : List Nat, (∀ d ∈ vs, f d = f c → d = c) → cn_ix (f c) (vs.map f) = cn_ix c vs := by
  intro vs
  induction vs with
  | nil => intro _; rfl
  | cons v vs ih =>
    intro h
    by_cases e : v = c
    · simp [cn_ix, e]
    · have hne : ¬ f v = f c := fun z => e (h v (by simp) z)
      simp only [List.map_cons, cn_ix, if_neg e, if_neg hne]
      rw [ih (fun d hd => h d (by simp [hd]))]
/-- numbering doesn't see a renaming -/
theorem cn_go_f {f : Nat → Nat} : ∀ cs vs : List Nat, (∀ c ∈ cs, c < 10 → f c = c) → (∀ c ∈ cs, ¬ c < 10 → ¬ f c < 10) →
    (∀ c d, c ∈ cs ∨ c ∈ vs → d ∈ cs ∨ d ∈ vs → ¬ c < 10 → ¬ d < 10 → f c = f d → c = d) → (∀ d ∈ vs, ¬ d < 10) →
    cn_go (vs.map f) (cs.map f) = cn_go vs cs := by
  intro cs
  induction cs with
  | nil => intro vs _ _ _ _; rfl
  | cons c cs ih =>
    intro vs h0 h1 hi hv
    have h0' : ∀ d ∈ cs, d < 10 → f d = d := fun d hd => h0 d (by simp [hd])
    have h1' : ∀ d ∈ cs, ¬ d < 10 → ¬ f d < 10 := fun d hd => h1 d (by simp [hd])
    have hi' : ∀ a d, a ∈ cs ∨ a ∈ vs → d ∈ cs ∨ d ∈ vs → ¬ a < 10 → ¬ d < 10 → f a = f d → a = d := by
      intro a d ha hd
      refine hi a d ?_ ?_
      · rcases ha with ha | ha
        · exact Or.inl (by simp [ha])
        · exact Or.inr ha
      · rcases hd with hd | hd
        · exact Or.inl (by simp [hd])
        · exact Or.inr hd
    by_cases h : c < 10
    · have e := h0 c (by simp) h
      simp only [List.map_cons, cn_go, e, if_pos h]
      rw [ih vs h0' h1' hi' hv]
    · have h' := h1 c (by simp) h
      by_cases m : c ∈ vs
      · have m' : f c ∈ vs.map f := List.mem_map.mpr ⟨c, m, rfl⟩
        simp only [List.map_cons, cn_go, if_neg h, if_neg h', if_pos m, if_pos m']
        rw [ih vs h0' h1' hi' hv, cn_ix_f vs (fun d hd e => hi d c (Or.inr hd) (Or.inl (by simp)) (hv d hd) h e)]
      · have m' : ¬ f c ∈ vs.map f := by
          intro z
          obtain ⟨d, hd, e⟩ := List.mem_map.mp z
          exact m (hi d c (Or.inr hd) (Or.inl (by simp)) (hv d hd) h e ▸ hd)
        simp only [List.map_cons, cn_go, if_neg h, if_neg h', if_neg m, if_neg m', List.length_map]
        have := ih (vs ++ [c]) h0' h1' (by
          intro a d ha hd
          refine hi a d ?_ ?_
          · rcases ha with ha | ha
            · exact Or.inl (by simp [ha])
            · simp only [List.mem_append, List.mem_singleton] at ha
              rcases ha with ha | ha
              · exact Or.inr ha
              · exact Or.inl (by simp [ha])
          · rcases hd with hd | hd
            · exact Or.inl (by simp [hd])
            · simp only [List.mem_append, List.mem_singleton] at hd
              rcases hd with hd | hd
              · exact Or.inr hd
              · exact Or.inl (by simp [hd])) (by
          intro d hd
          simp only [List.mem_append, List.mem_singleton] at hd
          rcases hd with hd | hd
          · exact hv d hd
          · rw [hd]; exact h)
        rw [List.map_append, List.map_cons, List.map_nil] at this
        rw [this]

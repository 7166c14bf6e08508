/-- the tree that stands at each place of a list of codes -/
def tk_at (L : List Nat) (tau : Nat → mt_T) : Prop := ∀ k, k < L.length → mt_wf (tau k) ∧ L.getD k 0 = mt_hd (tau k) ∧ k + (mt_enc (tau k)).length ≤ L.length ∧
  (∀ a b c, tau k = .branch c a b → tau (k + 1) = a ∧ (c ≠ 3 → tau (k + 1 + (mt_enc a).length) = b))
/-- the place at which tree j of a list begins -/
def tk_pos : List mt_T → Nat → Nat
  | _, 0 => 0
  | [], _ + 1 => 0
  | t :: ts, j + 1 => (mt_enc t).length + tk_pos ts j
theorem gd_r {α : Type} (l2 : List α) (d : α) (k : Nat) : ∀ l1 : List α, (l1 ++ l2).getD (k + l1.length) d = l2.getD k d := by
  intro l1
  induction l1 with
  | nil => rfl
  | cons a l ih =>
    show (a :: (l ++ l2)).getD (k + l.length + 1) d = _
    rw [List.getD_cons_succ]; exact ih
theorem tk_one : ∀ t, mt_wf t → ∀ X : List Nat, ∃ tau : Nat → mt_T, tau 0 = t ∧ ∀ k, k < (mt_enc t).length → mt_wf (tau k) ∧ (mt_enc t ++ X).getD k 0 = mt_hd (tau k) ∧
    k + (mt_enc (tau k)).length ≤ (mt_enc t).length ∧ (∀ a b c, tau k = .branch c a b → tau (k + 1) = a ∧ (c ≠ 3 → tau (k + 1 + (mt_enc a).length) = b)) := by
  apply mt_wf_ind
  · intro n hn X
    refine ⟨fun _ => .leaf n, rfl, fun k hk => ?_⟩
    simp only [mt_enc, List.length_cons, List.length_nil] at hk
    have : k = 0 := by omega
    subst this
    refine ⟨hn, by simp [mt_enc, mt_hd], by simp [mt_enc], ?_⟩
    intro a b c e; cases e
  · intro c a b hc ha hb iha ihb X
    have h3 : ¬ c = 3 := by omega
    obtain ⟨ta, ta0, hta⟩ := iha (mt_enc b ++ X)
    obtain ⟨tb, tb0, htb⟩ := ihb X
    have hla := mt_enc_ne a
    have hlb := mt_enc_ne b
    have hlen : (mt_enc (.branch c a b)).length = 1 + (mt_enc a).length + (mt_enc b).length := by
      simp only [mt_enc, if_neg h3, List.length_cons, List.length_append]; omega
    have hE : mt_enc (.branch c a b) ++ X = c :: (mt_enc a ++ (mt_enc b ++ X)) := by
      simp only [mt_enc, if_neg h3, List.cons_append, List.append_assoc]
    refine ⟨fun k => if k = 0 then .branch c a b else if k < 1 + (mt_enc a).length then ta (k - 1) else tb (k - 1 - (mt_enc a).length), rfl, fun k hk => ?_⟩
    rw [hlen] at hk
    rw [hE, hlen]
    by_cases k0 : k = 0
    · subst k0
      refine ⟨Or.inr ⟨hc, ha, hb⟩, rfl, by show 0 + (mt_enc (.branch c a b)).length ≤ _; omega, ?_⟩
      intro a' b' c' e
      simp only [if_true, Lean.RArray.branch.injEq] at e
      obtain ⟨rfl, rfl, rfl⟩ := e
      refine ⟨?_, fun _ => ?_⟩
      · show (if (0 : Nat) + 1 = 0 then _ else if 0 + 1 < 1 + (mt_enc a).length then ta (0 + 1 - 1) else _) = a
        rw [if_neg (by omega), if_pos (by omega)]; exact ta0
      · show (if 0 + 1 + (mt_enc a).length = 0 then _ else if 0 + 1 + (mt_enc a).length < 1 + (mt_enc a).length then _ else tb (0 + 1 + (mt_enc a).length - 1 - (mt_enc a).length)) = b
        rw [if_neg (by omega), if_neg (by omega)]
        have : 0 + 1 + (mt_enc a).length - 1 - (mt_enc a).length = 0 := by omega
        rw [this]; exact tb0
    · by_cases k1 : k < 1 + (mt_enc a).length
      · obtain ⟨w1, w2, w3, w4⟩ := hta (k - 1) (by omega)
        simp only [if_neg k0, if_pos k1]
        obtain ⟨m, rfl⟩ : ∃ m, k = m + 1 := ⟨k - 1, by omega⟩
        simp only [Nat.add_sub_cancel] at w1 w2 w3 w4 ⊢
        refine ⟨w1, by rw [List.getD_cons_succ]; exact w2, by omega, ?_⟩
        intro a' b' c' e
        obtain ⟨q1, q2⟩ := w4 a' b' c' e
        rw [e] at w3
        have hl' : (mt_enc (.branch c' a' b')).length = 1 + (mt_enc a').length + (if c' = 3 then [] else mt_enc b').length := by
          simp only [mt_enc, List.length_cons, List.length_append]; omega
        rw [hl'] at w3
        have hla' := mt_enc_ne a'
        refine ⟨?_, fun hc' => ?_⟩
        · rw [if_neg (by omega), if_pos (by omega)]; exact q1
        · have hlb' := mt_enc_ne b'
          rw [if_neg hc'] at w3
          rw [if_neg (by omega), if_pos (by omega)]
          have : m + 1 + 1 + (mt_enc a').length - 1 = m + 1 + (mt_enc a').length := by omega
          rw [this]; exact q2 hc'
      · obtain ⟨w1, w2, w3, w4⟩ := htb (k - 1 - (mt_enc a).length) (by omega)
        simp only [if_neg k0, if_neg k1]
        obtain ⟨m, rfl⟩ : ∃ m, k = m + 1 + (mt_enc a).length := ⟨k - 1 - (mt_enc a).length, by omega⟩
        have em : m + 1 + (mt_enc a).length - 1 - (mt_enc a).length = m := by omega
        rw [em] at w1 w2 w3 w4 ⊢
        refine ⟨w1, ?_, by omega, ?_⟩
        · have : m + 1 + (mt_enc a).length = (m + (mt_enc a).length) + 1 := by omega
          rw [this, List.getD_cons_succ, gd_r]; exact w2
        · intro a' b' c' e
          obtain ⟨q1, q2⟩ := w4 a' b' c' e
          refine ⟨?_, fun hc' => ?_⟩
          · rw [if_neg (by omega), if_neg (by omega)]
            have : m + 1 + (mt_enc a).length + 1 - 1 - (mt_enc a).length = m + 1 := by omega
            rw [this]; exact q1
          · rw [if_neg (by omega), if_neg (by omega)]
            have : m + 1 + (mt_enc a).length + 1 + (mt_enc a').length - 1 - (mt_enc a).length = m + 1 + (mt_enc a').length := by omega
            rw [this]; exact q2 hc'
  · intro a ha iha X
    obtain ⟨ta, ta0, hta⟩ := iha X
    have hla := mt_enc_ne a
    have hlen : (mt_enc (.branch 3 a (.leaf 0))).length = 1 + (mt_enc a).length := by
      simp only [mt_enc, if_true, List.append_nil, List.length_cons]; omega
    have hE : mt_enc (.branch 3 a (.leaf 0)) ++ X = 3 :: (mt_enc a ++ X) := by
      simp only [mt_enc, if_true, List.append_nil, List.cons_append]
    refine ⟨fun k => if k = 0 then .branch 3 a (.leaf 0) else ta (k - 1), rfl, fun k hk => ?_⟩
    rw [hlen] at hk
    rw [hE, hlen]
    by_cases k0 : k = 0
    · subst k0
      refine ⟨Or.inl ⟨rfl, ha, rfl⟩, rfl, by show 0 + (mt_enc (.branch 3 a (.leaf 0))).length ≤ _; omega, ?_⟩
      intro a' b' c' e
      simp only [if_true, Lean.RArray.branch.injEq] at e
      obtain ⟨rfl, rfl, rfl⟩ := e
      exact ⟨ta0, fun h => absurd rfl h⟩
    · obtain ⟨w1, w2, w3, w4⟩ := hta (k - 1) (by omega)
      simp only [if_neg k0]
      obtain ⟨m, rfl⟩ : ∃ m, k = m + 1 := ⟨k - 1, by omega⟩
      simp only [Nat.add_sub_cancel] at w1 w2 w3 w4 ⊢
      refine ⟨w1, by rw [List.getD_cons_succ]; exact w2, by omega, ?_⟩
      intro a' b' c' e
      obtain ⟨q1, q2⟩ := w4 a' b' c' e
      refine ⟨?_, fun hc' => ?_⟩
      · rw [if_neg (by omega)]; exact q1
      · rw [if_neg (by omega)]
        have : m + 1 + 1 + (mt_enc a').length - 1 = m + 1 + (mt_enc a').length := by omega
        rw [this]; exact q2 hc'
theorem tk_all : ∀ ts : List mt_T, (∀ t ∈ ts, mt_wf t) → ∃ tau : Nat → mt_T, tk_at (mt_encs ts) tau ∧ ∀ j, j < ts.length → tau (tk_pos ts j) = ts.getD j (.leaf 0) := by
  intro ts
  induction ts with
  | nil => intro _; exact ⟨fun _ => .leaf 0, fun k hk => by simp [mt_encs] at hk, fun j hj => by simp at hj⟩
  | cons t ts ih =>
    intro hw
    obtain ⟨tb, htb, hpb⟩ := ih (fun x hx => hw x (by simp [hx]))
    obtain ⟨ta, ta0, hta⟩ := tk_one t (hw t (by simp)) (mt_encs ts)
    have hla := mt_enc_ne t
    have hlen : (mt_encs (t :: ts)).length = (mt_enc t).length + (mt_encs ts).length := by simp only [mt_encs, List.length_append]
    refine ⟨fun k => if k < (mt_enc t).length then ta k else tb (k - (mt_enc t).length), fun k hk => ?_, fun j hj => ?_⟩
    · rw [hlen] at hk
      rw [hlen]
      by_cases k1 : k < (mt_enc t).length
      · obtain ⟨w1, w2, w3, w4⟩ := hta k k1
        simp only [if_pos k1]
        refine ⟨w1, w2, by omega, ?_⟩
        intro a' b' c' e
        obtain ⟨q1, q2⟩ := w4 a' b' c' e
        rw [e] at w3
        have hl' : (mt_enc (.branch c' a' b')).length = 1 + (mt_enc a').length + (if c' = 3 then [] else mt_enc b').length := by
          simp only [mt_enc, List.length_cons, List.length_append]; omega
        rw [hl'] at w3
        have hla' := mt_enc_ne a'
        refine ⟨?_, fun hc' => ?_⟩
        · rw [if_pos (by omega)]; exact q1
        · have hlb' := mt_enc_ne b'
          rw [if_neg hc'] at w3
          rw [if_pos (by omega)]; exact q2 hc'
      · obtain ⟨m, rfl⟩ : ∃ m, k = m + (mt_enc t).length := ⟨k - (mt_enc t).length, by omega⟩
        obtain ⟨w1, w2, w3, w4⟩ := htb m (by omega)
        simp only [if_neg k1, Nat.add_sub_cancel]
        refine ⟨w1, ?_, by omega, ?_⟩
        · simp only [mt_encs]
          rw [gd_r]; exact w2
        · intro a' b' c' e
          obtain ⟨q1, q2⟩ := w4 a' b' c' e
          refine ⟨?_, fun hc' => ?_⟩
          · rw [if_neg (by omega)]
            have : m + (mt_enc t).length + 1 - (mt_enc t).length = m + 1 := by omega
            rw [this]; exact q1
          · rw [if_neg (by omega)]
            have : m + (mt_enc t).length + 1 + (mt_enc a').length - (mt_enc t).length = m + 1 + (mt_enc a').length := by omega
            rw [this]; exact q2 hc'
    · cases j with
      | zero =>
        dsimp only
        rw [show tk_pos (t :: ts) 0 = 0 from rfl, if_pos hla]
        exact ta0
      | succ j =>
        dsimp only
        rw [show tk_pos (t :: ts) (j + 1) = (mt_enc t).length + tk_pos ts j from rfl, if_neg (by omega), Nat.add_sub_cancel_left, List.getD_cons_succ]
        exact hpb j (by simp only [List.length_cons] at hj; omega)
/-- THE RULE of a token t of kind k: c its operands' places, w the node of its variable; f the function, g the called one, P its parameters, L the codes of its type -/
def ru_k (k : Nat) (t : Nat) (c : Nat → Nat) (w : Nat) (own : Bool) (P : Nat) (L : List Nat) (r : Nat → mt_T) : Prop :=
  match k with
  | 0 => r t = .leaf 0
  | 1 => r t = .leaf 1
  | 2 => r t = .leaf 1
  | 3 => r t = r w
  | 4 => if own then (∀ j, j < P → r (c j) = r (72 + j)) ∧ r t = r 0 else sc_inst L ((List.range P).map (fun j => r (c j)) ++ [r t])
  | 5 => r t = .branch 2 (r (c 0)) (r (c 1))
  | 6 => ∃ x, mt_wf x ∧ r (c 0) = .branch 2 (r t) x
  | 7 => ∃ x, mt_wf x ∧ r (c 0) = .branch 2 x (r t)
  | 8 => ∃ x, mt_wf x ∧ r t = .branch 3 x (.leaf 0)
  | 9 => r (c 1) = .branch 3 (r (c 0)) (.leaf 0) ∧ r t = r (c 1)
  | 10 => r (c 0) = .branch 3 (r (24 + 2 * t)) (.leaf 0) ∧ r (25 + 2 * t) = r (c 0) ∧ r (c 1) = r t ∧ r (c 2) = r t
  | 11 => r (c 0) = .leaf 1 ∧ r (c 1) = r t ∧ r (c 2) = r t
  | 12 => r (c 0) = .leaf 0 ∧ r (c 1) = .leaf 0 ∧ r t = .leaf 0
  | 13 => r (c 0) = .leaf 0 ∧ r (c 1) = .leaf 0 ∧ r t = .leaf 1
  | 14 => r (24 + 2 * t) = r (c 0) ∧ r t = r (c 1)
  | 15 => r t = .branch 4 (r (24 + 2 * t)) (r (c 0))
  | 16 => r (c 0) = .branch 4 (r (c 1)) (r t)
  | _ => True

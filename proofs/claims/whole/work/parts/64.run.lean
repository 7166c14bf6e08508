/-- a value: its type, Y's tag and number, X's word -/
abbrev FV := mt_T × Int32 × Int32 × Int32
/-- something begun: function, token, operand in work, environment, types; none where a body was entered -/
abbrev FE := Option (Nat × Nat × Nat × Int32 × (Nat → mt_T))
/-- cells: how many, their types, their places in X; bindings: how many, numbers, next ones, tags, values -/
abbrev GM := Nat × (Nat → mt_T) × (Nat → Nat) × Nat × (Nat → Int32) × (Nat → Int32) × (Nat → Int32) × (Nat → Int32)
def vv (nc : Nat) (ty : Nat → mt_T) (cm : Nat → Nat) (T : mt_T) (tg num x : Int32) : Prop := match T with
  | .leaf _ => tg = 0 ∧ x = num
  | .branch c a b => (c = 3 ∧ tg = 2 ∧ num = 0 ∧ x = 0) ∨ (∃ i, i < nc ∧ num = nI i ∧ x = nI (cm i) ∧ ty i = .branch c a b ∧ (c = 2 ∧ tg = 1 ∨ c = 3 ∧ tg = 3 ∨ c = 4 ∧ tg = 4))
theorem vv_ext {nc nc' : Nat} {ty ty' : Nat → mt_T} {cm cm' : Nat → Nat} {T : mt_T} {tg num x : Int32} (h : vv nc ty cm T tg num x) (h1 : nc ≤ nc') (h2 : ∀ i, i < nc → ty' i = ty i ∧ cm' i = cm i) : vv nc' ty' cm' T tg num x := by
  cases T with
  | leaf n => exact h
  | branch c a b =>
    rcases h with h | ⟨i, a1, a2, a3, a4, a5⟩
    · exact Or.inl h
    · exact Or.inr ⟨i, by omega, a2, by rw [(h2 i a1).2]; exact a3, by rw [(h2 i a1).1]; exact a4, a5⟩
theorem vv_tag {nc : Nat} {ty : Nat → mt_T} {cm : Nat → Nat} {T : mt_T} {tg num x : Int32} (h : vv nc ty cm T tg num x) : ∃ k, k ≤ 4 ∧ tg = nI k := by
  cases T with
  | leaf n => exact ⟨0, by omega, h.1⟩
  | branch c a b =>
    rcases h with ⟨_, h, _⟩ | ⟨i, _, _, _, _, ⟨_, h⟩ | ⟨_, h⟩ | ⟨_, h⟩⟩
    · exact ⟨2, by omega, h⟩
    · exact ⟨1, by omega, h⟩
    · exact ⟨3, by omega, h⟩
    · exact ⟨4, by omega, h⟩
theorem tag_b {k : Nat} (h : k ≤ 4) : vp_nar .byte ((nI k).toInt8.toInt32) = nI k := nr_b (by omega)
theorem tag_s {k : Nat} (h : k ≤ 4) : vp_nar .short ((nI k).toInt16.toInt32) = nI k := nr_s (by omega)
/-- an environment of n variables: e for Y, w for X, types nt -/
def ev (nc : Nat) (ty : Nat → mt_T) (cm : Nat → Nat) (nb : Nat) (bn bx bt bv : Nat → Int32) (n : Nat) (e : Int32) (w : Nat → Int32) (nt : Nat → mt_T) : Prop :=
  ∃ loc : Nat → Nat, (∀ k, k < n → loc k < nb ∧ bn (loc k) = nI k ∧ bx (loc k) = (if k = 0 then -1 else nI (loc (k - 1))) ∧ vv nc ty cm (nt k) (bt (loc k)) (bv (loc k)) (w k)) ∧ e = (if n = 0 then -1 else nI (loc (n - 1)))
theorem ev_ext {nc nc' nb nb' n : Nat} {ty ty' : Nat → mt_T} {cm cm' : Nat → Nat} {bn bx bt bv bn' bx' bt' bv' : Nat → Int32} {e : Int32} {w w' : Nat → Int32} {nt nt' : Nat → mt_T} (h : ev nc ty cm nb bn bx bt bv n e w nt) (h1 : nc ≤ nc') (h2 : ∀ i, i < nc → ty' i = ty i ∧ cm' i = cm i) (h3 : nb ≤ nb')
    (h4 : ∀ b, b < nb → bn' b = bn b ∧ bx' b = bx b ∧ bt' b = bt b ∧ bv' b = bv b) (h5 : ∀ k, k < n → w' k = w k) (h6 : ∀ k, k < n → nt' k = nt k) : ev nc' ty' cm' nb' bn' bx' bt' bv' n e w' nt' := by
  obtain ⟨loc, l1, l2⟩ := h
  refine ⟨loc, fun k hk => ?_, l2⟩
  obtain ⟨a, b, c, d⟩ := l1 k hk
  obtain ⟨e1, e2, e3, e4⟩ := h4 _ a
  rw [e1, e2, e3, e4, h5 k hk, h6 k hk]
  exact ⟨by omega, b, c, vv_ext d h1 h2⟩
/-- one more variable -/
theorem ev_bind {nc nb n : Nat} {ty : Nat → mt_T} {cm : Nat → Nat} {bn bx bt bv : Nat → Int32} {e tg num : Int32} {w w' : Nat → Int32} {nt nt' : Nat → mt_T} (h : ev nc ty cm nb bn bx bt bv n e w nt) (hv : vv nc ty cm (nt' n) tg num (w' n)) (h5 : ∀ k, k < n → w' k = w k) (h6 : ∀ k, k < n → nt' k = nt k) :
    ev nc ty cm (nb + 1) (upd bn nb (nI n)) (upd bx nb e) (upd bt nb tg) (upd bv nb num) (n + 1) (nI nb) w' nt' := by
  obtain ⟨loc, l1, l2⟩ := h
  refine ⟨fun k => if k < n then loc k else nb, fun k hk => ?_, ?_⟩
  · dsimp only
    by_cases z : k < n
    · rw [if_pos z]
      obtain ⟨a, b, c, d⟩ := l1 k z
      rw [pk_un (by omega), pk_un (by omega), pk_un (by omega), pk_un (by omega), h5 k z, h6 k z]
      refine ⟨by omega, b, ?_, d⟩
      rw [c]
      by_cases y : k = 0
      · rw [if_pos y, if_pos y]
      · rw [if_neg y, if_neg y, if_pos (by omega)]
    · have ek : k = n := by omega
      subst ek
      rw [if_neg z, pk_us, pk_us, pk_us, pk_us]
      refine ⟨by omega, rfl, ?_, hv⟩
      rw [l2]
      by_cases y : k = 0
      · rw [if_pos y, if_pos y]
      · rw [if_neg y, if_neg y, if_pos (by omega)]
  · rw [if_neg (by omega), Nat.add_sub_cancel]
    dsimp only
    rw [if_neg (by omega)]
theorem ev_nil {nc nb : Nat} {ty : Nat → mt_T} {cm : Nat → Nat} {bn bx bt bv : Nat → Int32} {w : Nat → Int32} {nt : Nat → mt_T} : ev nc ty cm nb bn bx bt bv 0 (-1) w nt := ⟨fun _ => 0, fun k hk => by omega, rfl⟩
variable {ln P : Nat → Nat} {kN : Nat → Nat → Nat} {vl : Nat → Nat → Int32} {oc sp bd bi : Nat → Nat → Nat} {cod : Nat → List Nat}
/-- a frame at token t of function g -/
def fr_ok (ln P : Nat → Nat) (kN : Nat → Nat → Nat) (vl : Nat → Nat → Int32) (oc sp bd bi : Nat → Nat → Nat) (cod : Nat → List Nat) (nc : Nat) (ty : Nat → mt_T) (cm : Nat → Nat) (nb : Nat) (bn bx bt bv bw : Nat → Int32) (d g t : Nat) (e : Int32) (rho : Nat → mt_T) : Prop :=
  g < 5 ∧ ln g ≠ 0 ∧ t < ln g ∧ (∀ n, mt_wf (rho n)) ∧ S_t (fun _ => True) g (kN g) (vl g) (oc g) (sp g) (bd g) (bi g) cod (ln g) rho ∧ ev nc ty cm nb bn bx bt bv (bd g t) e (fun k => bw (d * 10 + k)) (fun k => rho (wv (bi g) (bd g) t k))
theorem fr_ext {nc nc' nb nb' d g t : Nat} {ty ty' : Nat → mt_T} {cm cm' : Nat → Nat} {bn bx bt bv bn' bx' bt' bv' bw bw' : Nat → Int32} {e : Int32} {rho : Nat → mt_T} (h : fr_ok ln P kN vl oc sp bd bi cod nc ty cm nb bn bx bt bv bw d g t e rho) (h1 : nc ≤ nc') (h2 : ∀ i, i < nc → ty' i = ty i ∧ cm' i = cm i) (h3 : nb ≤ nb')
    (h4 : ∀ b, b < nb → bn' b = bn b ∧ bx' b = bx b ∧ bt' b = bt b ∧ bv' b = bv b) (h5 : ∀ k, k < d * 10 + bd g t → bw' k = bw k) : fr_ok ln P kN vl oc sp bd bi cod nc' ty' cm' nb' bn' bx' bt' bv' bw' d g t e rho := by
  obtain ⟨a1, a2, a3, a4, a5, a6⟩ := h
  exact ⟨a1, a2, a3, a4, a5, ev_ext a6 h1 h2 h3 h4 (fun k hk => h5 _ (by omega)) (fun _ _ => rfl)⟩
/-- operands that are worked out before a token goes on -/
def nm (k o : Nat) : Nat := if k = 10 ∨ k = 11 ∨ k = 14 then 1 else o
/-- what waits, for a value of type A: d bodies deep; its variables lie below lim -/
def ko (ln P : Nat → Nat) (kN : Nat → Nat → Nat) (vl : Nat → Nat → Int32) (oc sp bd bi : Nat → Nat → Nat) (cod : Nat → List Nat) (T0 : mt_T) (nc : Nat) (ty : Nat → mt_T) (cm : Nat → Nat) (nb : Nat) (bn bx bt bv bw : Nat → Int32) : List FE → List FV → mt_T → Nat → Nat → Prop
  | [], ws, A, d, _ => ws = [] ∧ A = T0 ∧ d = 0
  | none :: st, ws, A, d, lim => ∃ d', d = d' + 1 ∧ d * 10 ≤ lim ∧ st.length ≤ 25 * d' + 24 ∧ ws.length ≤ 25 * d' + 24 ∧ ko ln P kN vl oc sp bd bi cod T0 nc ty cm nb bn bx bt bv bw st ws A d' (d * 10)
  | some (g, t, s, e, rho) :: st, ws, A, d, lim => fr_ok ln P kN vl oc sp bd bi cod nc ty cm nb bn bx bt bv bw d g t e rho ∧ s < nm (kN g t) (oc g t) ∧ kN g t ≠ 15 ∧ A = rho (jp (sp g) t s) ∧ d * 10 + bd g t ≤ lim ∧
      ∃ ws', (s = 0 ∧ ws = ws' ∨ s = 1 ∧ ∃ w, ws = w :: ws' ∧ w.1 = rho (jp (sp g) t 0)) ∧ st.length ≤ 25 * d + t ∧ ws'.length ≤ 25 * d + t ∧ ko ln P kN vl oc sp bd bi cod T0 nc ty cm nb bn bx bt bv bw st ws' (rho t) d (d * 10 + bd g t)
theorem ko_ext {T0 : mt_T} {nc nc' nb nb' : Nat} {ty ty' : Nat → mt_T} {cm cm' : Nat → Nat} {bn bx bt bv bn' bx' bt' bv' bw bw' : Nat → Int32} (h1 : nc ≤ nc') (h2 : ∀ i, i < nc → ty' i = ty i ∧ cm' i = cm i) (h3 : nb ≤ nb') (h4 : ∀ b, b < nb → bn' b = bn b ∧ bx' b = bx b ∧ bt' b = bt b ∧ bv' b = bv b) :
    ∀ st ws A d lim, (∀ k, k < lim → bw' k = bw k) → ko ln P kN vl oc sp bd bi cod T0 nc ty cm nb bn bx bt bv bw st ws A d lim → ko ln P kN vl oc sp bd bi cod T0 nc' ty' cm' nb' bn' bx' bt' bv' bw' st ws A d lim := by
  intro st
  induction st with
  | nil => intro ws A d lim _ h; exact h
  | cons E st ih =>
    intro ws A d lim h5 h
    cases E with
    | none =>
      obtain ⟨d', a1, a2, a3, a4, a5⟩ := h
      exact ⟨d', a1, a2, a3, a4, ih ws A d' _ (fun k hk => h5 k (by omega)) a5⟩
    | some E =>
      obtain ⟨g, t, s, e, rho⟩ := E
      obtain ⟨a1, a2, a3, a4, a5, ws', a6, a7, a8, a9⟩ := h
      exact ⟨fr_ext a1 h1 h2 h3 h4 (fun k hk => h5 k (by omega)), a2, a3, a4, a5, ws', a6, a7, a8, ih ws' (rho t) d _ (fun k hk => h5 k (by omega)) a9⟩
theorem ko_lim {T0 : mt_T} {nc nb : Nat} {ty : Nat → mt_T} {cm : Nat → Nat} {bn bx bt bv bw : Nat → Int32} {st : List FE} {ws : List FV} {A : mt_T} {d lim lim' : Nat} (h : ko ln P kN vl oc sp bd bi cod T0 nc ty cm nb bn bx bt bv bw st ws A d lim) (hl : lim ≤ lim') : ko ln P kN vl oc sp bd bi cod T0 nc ty cm nb bn bx bt bv bw st ws A d lim' := by
  cases st with
  | nil => exact h
  | cons E st =>
    cases E with
    | none => obtain ⟨d', a1, a2, a3⟩ := h; exact ⟨d', a1, by omega, a3⟩
    | some E =>
      obtain ⟨g, t, s, e, rho⟩ := E
      obtain ⟨a1, a2, a3, a4, a5, a6⟩ := h
      exact ⟨a1, a2, a3, a4, by omega, a6⟩
/-- the stacks of what is begun, in the arrays -/
def sx_ok (sl sr tk en sp : Nat → Int32) : List FE → Prop
  | [] => True
  | none :: st => sl st.length = -1 ∧ tk st.length = -1 ∧ sx_ok sl sr tk en sp st
  | some (g, t, s, e, _) :: st => sl st.length = nI ((5 + g) * 24 + t) ∧ sr st.length = nI s ∧ tk st.length = nI (24 * (6 + g) + t) ∧ en st.length = e ∧ sp st.length = nI (s + 1) ∧ sx_ok sl sr tk en sp st
theorem sx_ext {sl sr tk en sp sl' sr' tk' en' sp' : Nat → Int32} : ∀ st, (∀ j, j < st.length → sl' j = sl j ∧ sr' j = sr j ∧ tk' j = tk j ∧ en' j = en j ∧ sp' j = sp j) → sx_ok sl sr tk en sp st → sx_ok sl' sr' tk' en' sp' st := by
  intro st
  induction st with
  | nil => intro _ _; trivial
  | cons E st ih =>
    intro h0 h
    obtain ⟨e1, e2, e3, e4, e5⟩ := h0 st.length (by simp)
    have h0' : ∀ j, j < st.length → sl' j = sl j ∧ sr' j = sr j ∧ tk' j = tk j ∧ en' j = en j ∧ sp' j = sp j := fun j hj => h0 j (by simp; omega)
    cases E with
    | none =>
      obtain ⟨a1, a2, a3⟩ := h
      exact ⟨e1.trans a1, e3.trans a2, ih h0' a3⟩
    | some E =>
      obtain ⟨g, t, s, e, rho⟩ := E
      obtain ⟨a1, a2, a3, a4, a5, a6⟩ := h
      exact ⟨e1.trans a1, e2.trans a2, e3.trans a3, e4.trans a4, e5.trans a5, ih h0' a6⟩
/-- the stacks of words and values -/
def wo_ok (nc : Nat) (ty : Nat → mt_T) (cm : Nat → Nat) (wd tg nu : Nat → Int32) : List FV → Prop
  | [] => True
  | w :: ws => wd ws.length = w.2.2.2 ∧ tg ws.length = w.2.1 ∧ nu ws.length = w.2.2.1 ∧ vv nc ty cm w.1 w.2.1 w.2.2.1 w.2.2.2 ∧ wo_ok nc ty cm wd tg nu ws
theorem wo_ext {nc nc' : Nat} {ty ty' : Nat → mt_T} {cm cm' : Nat → Nat} {wd tg nu wd' tg' nu' : Nat → Int32} (h1 : nc ≤ nc') (h2 : ∀ i, i < nc → ty' i = ty i ∧ cm' i = cm i) : ∀ ws, (∀ j, j < ws.length → wd' j = wd j ∧ tg' j = tg j ∧ nu' j = nu j) → wo_ok nc ty cm wd tg nu ws → wo_ok nc' ty' cm' wd' tg' nu' ws := by
  intro ws
  induction ws with
  | nil => intro _ _; trivial
  | cons w ws ih =>
    intro h0 h
    obtain ⟨e1, e2, e3⟩ := h0 ws.length (by simp)
    obtain ⟨a1, a2, a3, a4, a5⟩ := h
    exact ⟨e1.trans a1, e2.trans a2, e3.trans a3, vv_ext a4 h1 h2, ih (fun j hj => h0 j (by simp; omega)) a5⟩
/-- cells -/
def ce_ok (ln P : Nat → Nat) (kN : Nat → Nat → Nat) (vl : Nat → Nat → Int32) (oc sp bd bi : Nat → Nat → Nat) (cod : Nat → List Nat) (nc : Nat) (ty : Nat → mt_T) (cm : Nat → Nat) (nb : Nat) (bn bx bt bv : Nat → Int32) (nx nl nk : Nat) (lc : Nat → Nat) (cf cs ct cw ht tt hd tl ce : Nat → Int32) (i : Nat) : Prop :=
  (∃ a b, ty i = .branch 2 a b ∧ 1 ≤ cm i ∧ cm i < nx ∧ vv i ty cm a (ht i) (hd i) (cf (cm i)) ∧ vv i ty cm b (tt i) (tl i) (cs (cm i))) ∨
  (∃ a b, ty i = .branch 3 a b ∧ 1 ≤ cm i ∧ cm i < nx ∧ vv i ty cm a (ht i) (hd i) (cf (cm i)) ∧ vv i ty cm (.branch 3 a b) (tt i) (tl i) (cs (cm i)) ∧ lc i ≤ nk ∧ (tt i = 2 → lc i = 1) ∧ (∀ j, tt i = 3 → j < i → tl i = nI j → lc i = lc j + 1)) ∨
  (∃ a b, ty i = .branch 4 a b ∧ cm i < nl ∧ ∃ g t rho, g < 5 ∧ ln g ≠ 0 ∧ t < ln g ∧ kN g t = 15 ∧ (∀ n, mt_wf (rho n)) ∧ S_t (fun _ => True) g (kN g) (vl g) (oc g) (sp g) (bd g) (bi g) cod (ln g) rho ∧ rho t = .branch 4 a b ∧ hd i = nI (24 * (6 + g) + t) ∧ ct (cm i) = nI ((5 + g) * 24 + t) ∧
    ev nc ty cm nb bn bx bt bv (bd g t) (ce i) (fun k => cw (cm i * 10 + k)) (fun k => rho (wv (bi g) (bd g) t k)))
theorem ce_ext {nc nc' nb nb' nx nx' nl nl' nk nk' i : Nat} {ty ty' : Nat → mt_T} {cm cm' lc lc' : Nat → Nat} {bn bx bt bv bn' bx' bt' bv' cf cs ct cw ht tt hd tl ce cf' cs' ct' cw' ht' tt' hd' tl' ce' : Nat → Int32} (hlib : lib ln P kN vl oc sp bd bi cod) (h : ce_ok ln P kN vl oc sp bd bi cod nc ty cm nb bn bx bt bv nx nl nk lc cf cs ct cw ht tt hd tl ce i) (hi : i < nc)
    (h1 : nc ≤ nc') (h2 : ∀ i, i < nc → ty' i = ty i ∧ cm' i = cm i ∧ lc' i = lc i) (h3 : nb ≤ nb') (h4 : ∀ b, b < nb → bn' b = bn b ∧ bx' b = bx b ∧ bt' b = bt b ∧ bv' b = bv b) (h5 : nx ≤ nx') (h6 : nl ≤ nl') (h7 : nk ≤ nk')
    (h8 : ∀ j, j < nx → cf' j = cf j ∧ cs' j = cs j) (h9 : ∀ j, j < nl → ct' j = ct j) (h10 : ∀ j, j < nl * 10 → cw' j = cw j) (h11 : ∀ j, j < nc → ht' j = ht j ∧ tt' j = tt j ∧ hd' j = hd j ∧ tl' j = tl j ∧ ce' j = ce j) :
    ce_ok ln P kN vl oc sp bd bi cod nc' ty' cm' nb' bn' bx' bt' bv' nx' nl' nk' lc' cf' cs' ct' cw' ht' tt' hd' tl' ce' i := by
  obtain ⟨e1, e2, e3⟩ := h2 i hi
  obtain ⟨f1, f2, f3, f4, f5⟩ := h11 i hi
  have hv : ∀ j, j < i → ty' j = ty j ∧ cm' j = cm j := fun j hj => ⟨(h2 j (by omega)).1, (h2 j (by omega)).2.1⟩
  rcases h with ⟨a, b, q1, q2, q3, q4, q5⟩ | ⟨a, b, q1, q2, q3, q4, q5, q6, q7, q8⟩ | ⟨a, b, q1, q2, g, t, rho, r1, r2, r3, r4, r5, r6, r7, r8, r9, r10⟩
  · refine Or.inl ⟨a, b, by rw [e1]; exact q1, by omega, by omega, ?_, ?_⟩
    · rw [f1, f3, e2, (h8 _ q3).1]; exact vv_ext q4 (Nat.le_refl _) hv
    · rw [f2, f4, e2, (h8 _ q3).2]; exact vv_ext q5 (Nat.le_refl _) hv
  · refine Or.inr (Or.inl ⟨a, b, by rw [e1]; exact q1, by omega, by omega, ?_, ?_, by omega, ?_, ?_⟩)
    · rw [f1, f3, e2, (h8 _ q3).1]; exact vv_ext q4 (Nat.le_refl _) hv
    · rw [f2, f4, e2, (h8 _ q3).2]; exact vv_ext q5 (Nat.le_refl _) hv
    · rw [f2, e3]; exact q7
    · intro j; rw [f2, f4, e3]; intro z y x; rw [(h2 j (by omega)).2.2]; exact q8 j z y x
  · refine Or.inr (Or.inr ⟨a, b, by rw [e1]; exact q1, by omega, g, t, rho, r1, r2, r3, r4, r5, r6, r7, by rw [f3]; exact r8, by rw [e2, h9 _ q2]; exact r9, ?_⟩)
    rw [f5, e2]
    have hb := (hlib g r1 r2).2.2.2.1 t r3
    exact ev_ext r10 h1 (fun j hj => ⟨(h2 j hj).1, (h2 j hj).2.1⟩) h3 h4 (fun k hk => h10 _ (by omega)) (fun _ _ => rfl)

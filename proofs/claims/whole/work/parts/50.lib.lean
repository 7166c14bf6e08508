theorem ru_depQ {Q : Nat → Prop} {k t w P : Nat} {c : Nat → Nat} {own : Bool} {Lc : List Nat} {r r' : Nat → mt_T} (hk : k ≤ 16) (ht : Q t) (ht1 : Q (24 + 2 * t)) (ht2 : Q (25 + 2 * t)) (hQ0 : Q 0) (hc : ∀ j, j < (if k = 4 then P else ar k) → Q (c j)) (hw : k = 3 → Q w) (hP : k = 4 → own = true → ∀ j, j < P → Q (72 + j))
    (e : ∀ n, Q n → r' n = r n) (h : ru_k k t c w own P Lc r) : ru_k k t c w own P Lc r' := by
  have hc' : k ≠ 4 → ∀ j, j < ar k → Q (c j) := fun z j hj => hc j (by rw [if_neg z]; exact hj)
  have et := e t ht
  have e1 := e (24 + 2 * t) ht1
  have e2 := e (25 + 2 * t) ht2
  rcases k17 hk with rfl | rfl | rfl | rfl | rfl | rfl | rfl | rfl | rfl | rfl | rfl | rfl | rfl | rfl | rfl | rfl | rfl
  · show r' t = _; rw [et]; exact h
  · show r' t = _; rw [et]; exact h
  · show r' t = _; rw [et]; exact h
  · show r' t = r' w; rw [et, e w (hw rfl)]; exact h
  · rw [if_pos rfl] at hc
    cases own with
    | true =>
      obtain ⟨a, b⟩ := h
      refine ⟨fun j hj => ?_, ?_⟩
      · rw [e _ (hc j hj), e _ (hP rfl rfl j hj)]; exact a j hj
      · rw [et, e 0 hQ0]; exact b
    | false =>
      show sc_inst Lc ((List.range P).map (fun j => r' (c j)) ++ [r' t])
      have : (List.range P).map (fun j => r' (c j)) = (List.range P).map (fun j => r (c j)) := List.map_congr_left (fun j hj => e _ (hc j (List.mem_range.mp hj)))
      rw [this, et]; exact h
  · show r' t = .branch 2 (r' (c 0)) (r' (c 1)); rw [et, e _ (hc' (by decide) 0 (by decide)), e _ (hc' (by decide) 1 (by decide))]; exact h
  · show ∃ x, mt_wf x ∧ r' (c 0) = .branch 2 (r' t) x; rw [et, e _ (hc' (by decide) 0 (by decide))]; exact h
  · show ∃ x, mt_wf x ∧ r' (c 0) = .branch 2 x (r' t); rw [et, e _ (hc' (by decide) 0 (by decide))]; exact h
  · show ∃ x, mt_wf x ∧ r' t = .branch 3 x (.leaf 0); rw [et]; exact h
  · show r' (c 1) = .branch 3 (r' (c 0)) (.leaf 0) ∧ r' t = r' (c 1); rw [et, e _ (hc' (by decide) 0 (by decide)), e _ (hc' (by decide) 1 (by decide))]; exact h
  · show r' (c 0) = .branch 3 (r' (24 + 2 * t)) (.leaf 0) ∧ r' (25 + 2 * t) = r' (c 0) ∧ r' (c 1) = r' t ∧ r' (c 2) = r' t
    rw [et, e1, e2, e _ (hc' (by decide) 0 (by decide)), e _ (hc' (by decide) 1 (by decide)), e _ (hc' (by decide) 2 (by decide))]; exact h
  · show r' (c 0) = .leaf 1 ∧ r' (c 1) = r' t ∧ r' (c 2) = r' t
    rw [et, e _ (hc' (by decide) 0 (by decide)), e _ (hc' (by decide) 1 (by decide)), e _ (hc' (by decide) 2 (by decide))]; exact h
  · show r' (c 0) = .leaf 0 ∧ r' (c 1) = .leaf 0 ∧ r' t = .leaf 0; rw [et, e _ (hc' (by decide) 0 (by decide)), e _ (hc' (by decide) 1 (by decide))]; exact h
  · show r' (c 0) = .leaf 0 ∧ r' (c 1) = .leaf 0 ∧ r' t = .leaf 1; rw [et, e _ (hc' (by decide) 0 (by decide)), e _ (hc' (by decide) 1 (by decide))]; exact h
  · show r' (24 + 2 * t) = r' (c 0) ∧ r' t = r' (c 1); rw [et, e1, e _ (hc' (by decide) 0 (by decide)), e _ (hc' (by decide) 1 (by decide))]; exact h
  · show r' t = .branch 4 (r' (24 + 2 * t)) (r' (c 0)); rw [et, e1, e _ (hc' (by decide) 0 (by decide))]; exact h
  · show r' (c 0) = .branch 4 (r' (c 1)) (r' t); rw [et, e _ (hc' (by decide) 0 (by decide)), e _ (hc' (by decide) 1 (by decide))]; exact h
theorem ru_L {k t w P : Nat} {c : Nat → Nat} {own : Bool} {L L' : List Nat} {r : Nat → mt_T} (hk : k ≤ 16) (h : k = 4 → own = false → L' = L) (hr : ru_k k t c w own P L r) : ru_k k t c w own P L' r := by
  by_cases z : k = 4
  · subst z
    cases own with
    | true => exact hr
    | false => rw [h rfl rfl]; exact hr
  · rcases k17 hk with rfl | rfl | rfl | rfl | rfl | rfl | rfl | rfl | rfl | rfl | rfl | rfl | rfl | rfl | rfl | rfl | rfl <;> first | exact absurd rfl z | exact hr
theorem S_cod {S0 : (Nat → mt_T) → Prop} {f : Nat} {kN : Nat → Nat} {vl : Nat → Int32} {oc sp bd bi : Nat → Nat} {cod cod' : Nat → List Nat} {n : Nat} {r : Nat → mt_T} (hk : ∀ t, t < n → kN t ≤ 16)
    (h : ∀ t, t < n → kN t = 4 → (vl t).toNatClampNeg ≠ f → cod' (vl t).toNatClampNeg = cod (vl t).toNatClampNeg) (hs : S_t S0 f kN vl oc sp bd bi cod n r) : S_t S0 f kN vl oc sp bd bi cod' n r := by
  refine ⟨hs.1, fun s hl => ru_L (hk s hl) (fun z w => h s hl z (fun e => ?_)) (hs.2 s hl)⟩
  rw [e] at w
  simp at w
/-- the node of variable k at token t -/
def wv (bi bd : Nat → Nat) (t k : Nat) : Nat := vw bi bd (bi t) (bi t) k
theorem wv_child {n : Nat} {kN oc sp bd bi : Nat → Nat} (htr : tr_ok n kN oc sp bd bi) (hbi : ∀ t, t < n → bi t ≤ t) {t j : Nat} (ht : t < n) (hj : j < oc t) (k : Nat) :
    wv bi bd (jp sp t j) k = if bn (kN t) j ≠ 0 ∧ bd t ≤ k then 24 + 2 * t + (k - bd t) else wv bi bd t k := by
  obtain ⟨t1, t2⟩ := htr.2 t ht j hj
  unfold wv
  by_cases z : bn (kN t) j = 0
  · rw [if_pos z] at t2
    rw [t2, if_neg (fun y => y.1 z)]
  · rw [if_neg z] at t2
    rw [t2]
    simp only [vw, Nat.add_sub_cancel, Nat.succ_ne_zero, if_false]
    by_cases y : bd t ≤ k
    · rw [if_pos y, if_pos ⟨z, y⟩]
    · rw [if_neg y, if_neg (fun x => y x.2)]
      exact vw_fuel' t (bi t) (bi t) k (hbi t ht) (Nat.le_refl _) (fun s hs => hbi s (by have := hbi t ht; omega))
theorem wv_in {n P : Nat} {kN oc sp bd bi : Nat → Nat} (hn : n ≤ 24) (hbw : bw_is n oc sp) (htr : tr_ok n kN oc sp bd bi) (hbi : ∀ t, t < n → bi t ≤ t) (h0 : bd 0 = P) : ∀ m t, t ≤ m → t < n → ∀ k, k < bd t → yl_in n P (wv bi bd t k) := by
  intro m
  induction m with
  | zero =>
    intro t ht htn k hk
    have e : t = 0 := by omega
    subst e
    unfold wv
    rw [htr.1]
    exact Or.inr (Or.inr ⟨by simp only [vw]; omega, by simp only [vw]; omega⟩)
  | succ m ih =>
    intro t ht htn k hk
    by_cases z : t = 0
    · subst z
      unfold wv
      rw [htr.1]
      exact Or.inr (Or.inr ⟨by simp only [vw]; omega, by simp only [vw]; omega⟩)
    · obtain ⟨v, j, hv, hj, e⟩ := bw_parent hbw (by omega) htn
      have hc := wv_child htr hbi (by omega) hj k
      have hb := (htr.2 v (by omega) j hj).1
      have h2 := bn_2 (kN v) j
      rw [← e] at hc hb
      rw [hc]
      by_cases y : bn (kN v) j ≠ 0 ∧ bd v ≤ k
      · rw [if_pos y]
        exact Or.inr (Or.inl ⟨by omega, by omega, by omega⟩)
      · rw [if_neg y]
        refine ih v (by omega) (by omega) k ?_
        by_cases x : bn (kN v) j = 0
        · omega
        · have : ¬ bd v ≤ k := fun w => y ⟨x, w⟩
          omega
theorem yl_74 {n P p : Nat} (hP : P ≤ 2) (h : yl_in n P p) : p < 74 := by
  rcases h with ⟨a, _⟩ | ⟨_, a, _⟩ | ⟨a, b⟩ <;> omega
/-- how many variables are bound, at most -/
theorem bd_2 {n P : Nat} {kN oc sp bd bi : Nat → Nat} (hbw : bw_is n oc sp) (htr : tr_ok n kN oc sp bd bi) (h0 : bd 0 = P) : ∀ m t, t ≤ m → t < n → bd t ≤ P + 2 * t := by
  intro m
  induction m with
  | zero => intro t ht _; have e : t = 0 := by omega
            subst e; omega
  | succ m ih =>
    intro t ht htn
    by_cases z : t = 0
    · subst z; omega
    · obtain ⟨v, j, hv, hj, e⟩ := bw_parent hbw (by omega) htn
      have hb := (htr.2 v (by omega) j hj).1
      have h2 := bn_2 (kN v) j
      have := ih v (by omega) (by omega)
      rw [← e] at hb
      omega
theorem bi_t {n : Nat} {kN oc sp bd bi : Nat → Nat} (hbw : bw_is n oc sp) (htr : tr_ok n kN oc sp bd bi) : ∀ m t, t ≤ m → t < n → bi t ≤ t := by
  intro m
  induction m with
  | zero => intro t ht _; have e : t = 0 := by omega
            subst e; rw [htr.1]; omega
  | succ m ih =>
    intro t ht htn
    by_cases z : t = 0
    · subst z; rw [htr.1]; omega
    · obtain ⟨v, j, hv, hj, e⟩ := bw_parent hbw (by omega) htn
      have hb := (htr.2 v (by omega) j hj).2
      have := ih v (by omega) (by omega)
      rw [← e] at hb
      rw [hb]
      split <;> omega
theorem bd_10 {n P : Nat} {kN oc sp bd bi : Nat → Nat} (hbw : bw_is n oc sp) (htr : tr_ok n kN oc sp bd bi) (h0 : bd 0 = P) (hP : P ≤ 2) (hk : ∀ t, t < n → kN t ≤ 16 ∧ (kN t ≠ 4 → oc t = ar (kN t))) (hop : ∀ t, t < n → 0 < op (kN t) → bd t + op (kN t) ≤ 10) : ∀ m t, t ≤ m → t < n → bd t ≤ 10 := by
  intro m
  induction m with
  | zero => intro t ht _; have e : t = 0 := by omega
            subst e; omega
  | succ m ih =>
    intro t ht htn
    by_cases z : t = 0
    · subst z; omega
    · obtain ⟨v, j, hv, hj, e⟩ := bw_parent hbw (by omega) htn
      have hb := (htr.2 v (by omega) j hj).1
      have := ih v (by omega) (by omega)
      rw [← e] at hb
      rw [hb, op_bn (hk v (by omega)).1 (hk v (by omega)).2 j hj]
      split
      · next y => exact hop v (by omega) y.1
      · omega
/-- bodies and types of the functions -/
def lib (ln P : Nat → Nat) (kN : Nat → Nat → Nat) (vl : Nat → Nat → Int32) (oc sp bd bi : Nat → Nat → Nat) (cod : Nat → List Nat) : Prop :=
  ∀ g, g < 5 → ln g ≠ 0 → bd_ok (ln g) (kN g) (vl g) (oc g) (sp g) (bd g) (bi g) ∧ bd g 0 = P g ∧ P g ≤ 2 ∧ (∀ t, t < ln g → bd g t ≤ 10) ∧ (∀ t, t < ln g → 0 < op (kN g t) → bd g t + op (kN g t) ≤ 10) ∧
    (∀ t, t < ln g → kN g t = 4 → ∃ h, h < 5 ∧ vl g t = nI h ∧ ln h ≠ 0 ∧ oc g t = P h) ∧
    (∃ ts, (∀ t ∈ ts, mt_wf t) ∧ mt_encs ts = cod g ∧ ts.length = P g + 1) ∧ (cod g).length ≤ 14 * (P g + 1) ∧ (∀ k, k < (cod g).length → (cod g).getD k 0 < 60) ∧
    (∀ tp, sc_inst (cod g) tp ↔ ∃ r, (∀ n, mt_wf (r n)) ∧ S_t (fun _ => True) g (kN g) (vl g) (oc g) (sp g) (bd g) (bi g) cod (ln g) r ∧ tp = (ow_st (P g)).map r)
def lx_ok (ln P : Nat → Nat) (kN : Nat → Nat → Nat) (vl : Nat → Nat → Int32) (sp bd bi : Nat → Nat → Nat) (cod : Nat → List Nat) (ki va spa bou bin len pc tc tl : Nat → Int32) : Prop :=
  ∀ g, g < 5 → len g = nI (ln g) ∧ ln g ≤ 24 ∧ (ln g ≠ 0 → pc g = nI (P g) ∧ (∀ t, t < ln g → ki (g * 24 + t) = nI (kN g t) ∧ va (g * 24 + t) = vl g t ∧ spa (g * 24 + t) = nI (sp g t) ∧ bou (g * 24 + t) = nI (bd g t) ∧ bin (g * 24 + t) = (if bi g t = 0 then -1 else nI (bi g t - 1))) ∧ rw_ok g tc tl (cod g))
def ly_ok (ln P : Nat → Nat) (kN : Nat → Nat → Nat) (vl : Nat → Nat → Int32) (oc sp bd : Nat → Nat → Nat) (cod : Nat → List Nat) (ki va up tu de be len par co cn : Nat → Int32) : Prop :=
  ∀ g, g < 5 → len g = nI (ln g) ∧ (ln g ≠ 0 → par g = nI (P g) ∧ yb_ok g (ln g) ki va up tu de be (kN g) (vl g) (oc g) (sp g) (bd g) ∧ cn g = nI (cod g).length ∧ ∀ k, k < (cod g).length → co (48 * g + k) = nI ((cod g).getD k 0))
/-- X's body of g, as the typing wants it -/
theorem lib_xb {ln P : Nat → Nat} {kN : Nat → Nat → Nat} {vl : Nat → Nat → Int32} {oc sp bd bi : Nat → Nat → Nat} {cod : Nat → List Nat} {ki va spa bou bin len pc tc tl : Nat → Int32} (h : lib ln P kN vl oc sp bd bi cod) (hx : lx_ok ln P kN vl sp bd bi cod ki va spa bou bin len pc tc tl)
    {g : Nat} (hg : g < 5) (hl : ln g ≠ 0) : xb_ok g (ln g) ki va spa bou bin len pc (kN g) (vl g) (oc g) (sp g) (bd g) (bi g) := by
  obtain ⟨⟨b1, b2, b3, b4, b5⟩, _, _, l4, _, l6, _⟩ := h g hg hl
  obtain ⟨_, _, x3⟩ := hx g hg
  obtain ⟨_, x5, _⟩ := x3 hl
  refine ⟨b1, b2, b3, fun t ht => ?_⟩
  obtain ⟨c1, c2, c3, c4, c5, c6⟩ := b5 t ht
  obtain ⟨y1, y2, y3, y4, y5⟩ := x5 t ht
  refine ⟨y1, c1, y2, y3, y4, c3, y5, c4, c6, fun z => ?_, c5⟩
  obtain ⟨h', h1, h2, h3, h4⟩ := l6 t ht z
  obtain ⟨z1, z2, z3⟩ := hx h' h1
  refine ⟨h', h1, h2, ?_, ?_, ?_⟩
  · rw [z1]; intro w; exact h3 ((nI_eq (b := 0) (by omega) (by omega)).mp w)
  · rw [h4]; exact (z3 h3).1
  · rw [h4]; exact (h h' h1 h3).2.2.1
theorem lib_fn {ln P : Nat → Nat} {kN : Nat → Nat → Nat} {vl : Nat → Nat → Int32} {oc sp bd bi : Nat → Nat → Nat} {cod : Nat → List Nat} {ki va spa bou bin len pc tc tl : Nat → Int32} (h : lib ln P kN vl oc sp bd bi cod) (hx : lx_ok ln P kN vl sp bd bi cod ki va spa bou bin len pc tc tl)
    {g : Nat} (hg : g < 5) (hl : ln g ≠ 0) : fn_ok g (ln g) tc tl (kN g) (vl g) (oc g) cod := by
  intro t ht k4 h' hv h5 hne
  obtain ⟨h'', h1, h2, h3, h4⟩ := (h g hg hl).2.2.2.2.2.1 t ht k4
  have e : h'' = h' := by rw [h2] at hv; exact (nI_eq (by omega) (by omega)).mp hv
  subst e
  obtain ⟨_, _, _, _, _, _, l7, l8, _⟩ := h h'' h1 h3
  rw [h4]
  exact ⟨(hx h'' h1).2.2 h3 |>.2.2, l7, l8⟩
theorem lib_yn {ln P : Nat → Nat} {kN : Nat → Nat → Nat} {vl : Nat → Nat → Int32} {oc sp bd bi : Nat → Nat → Nat} {cod : Nat → List Nat} {ki va up tu de be len par co cn : Nat → Int32} (h : lib ln P kN vl oc sp bd bi cod) (hy : ly_ok ln P kN vl oc sp bd cod ki va up tu de be len par co cn)
    {g : Nat} (hg : g < 5) (hl : ln g ≠ 0) : yn_ok g g (ln g) par cn co (kN g) (vl g) (oc g) cod := by
  intro t ht k4
  obtain ⟨h', h1, h2, h3, h4⟩ := (h g hg hl).2.2.2.2.2.1 t ht k4
  obtain ⟨_, _, l3, _, _, _, l7, l8, l9, _⟩ := h h' h1 h3
  obtain ⟨y1, y2⟩ := hy h' h1
  obtain ⟨y3, y4, y5, y6⟩ := y2 h3
  rw [← h4] at l3 l7 l8 y3
  exact ⟨h', h1, h2, l3, fun e => (congrArg par e.symm).trans y3, fun _ => ⟨y3, l7, l8, l9, y5, y6⟩⟩
theorem S_mono {S0 : (Nat → mt_T) → Prop} {f : Nat} {kN : Nat → Nat} {vl : Nat → Int32} {oc sp bd bi : Nat → Nat} {cod : Nat → List Nat} {t u : Nat} {r : Nat → mt_T} (h : S_t S0 f kN vl oc sp bd bi cod u r) (htu : t ≤ u) : S_t S0 f kN vl oc sp bd bi cod t r :=
  ⟨h.1, fun s hs => h.2 s (by omega)⟩
/-- the rules of a body look at its own nodes alone -/
theorem S_dep {S0 : (Nat → mt_T) → Prop} {f n P : Nat} {kN : Nat → Nat} {vl : Nat → Int32} {oc sp bd bi : Nat → Nat} {cod : Nat → List Nat} {r r' : Nat → mt_T} (hn0 : 0 < n) (hb : bd_ok n kN vl oc sp bd bi) (h0 : bd 0 = P) (h4 : ∀ t, t < n → kN t = 4 → (vl t).toNatClampNeg = f → oc t = P)
    (e : ∀ p, yl_in n P p → r' p = r p) (hS : S0 r → S0 r') (h : S_t S0 f kN vl oc sp bd bi cod n r) : S_t S0 f kN vl oc sp bd bi cod n r' := by
  obtain ⟨n24, bw, _, tr, hbt⟩ := hb
  refine ⟨hS h.1, fun t ht => ?_⟩
  obtain ⟨b1, b2, b3, b4, b5, b6⟩ := hbt t ht
  have hin : ∀ s, s < n → yl_in n P s := fun s hs => Or.inl ⟨by omega, hs⟩
  refine ru_depQ (Q := yl_in n P) b1 (hin t ht) (Or.inr (Or.inl ⟨by omega, by omega, by omega⟩)) (Or.inr (Or.inl ⟨by omega, by omega, by omega⟩)) (hin 0 hn0) (fun j hj => ?_) (fun z => ?_) (fun z w j hj => ?_) e (h.2 t ht)
  · have : j < oc t := by
      by_cases z : kN t = 4
      · rw [if_pos z] at hj; exact hj
      · rw [if_neg z] at hj; rw [b5 z]; exact hj
    exact hin _ (bw_in bw ht this).2.2
  · obtain ⟨v, v1, v2, v3, v4⟩ := b6 z
    rw [v2, nI_clamp (by omega)]
    exact wv_in n24 bw tr (fun t ht => (hbt t ht).2.2.2.1) h0 t t (Nat.le_refl _) ht v v3
  · have := h4 t ht z (of_decide_eq_true w)
    exact Or.inr (Or.inr ⟨by omega, by omega⟩)
/-- a node that no rule names is a variable -/
theorem un_1 {N : Nat} {Sol S : (Nat → mt_T) → Prop} {c : Nat → mt_T} {Q : Nat → Prop} (hN : 74 ≤ N) (hm : mg_is N Sol c) (hp : pj_is 74 Sol S) (hS : ∀ r r', (∀ n, Q n → r' n = r n) → S r → S r') {p : Nat} (hp74 : p < 74) (hq : ¬ Q p) : (mt_enc (c p)).length ≤ 1 := by
  have h1 := hp.1 c hm.1 (mg_self hm)
  have h2 := hS c (gr_put c p (.leaf 0)) (fun n hn => gr_put_ne (fun z => hq (z ▸ hn))) h1
  obtain ⟨r', w', s', e'⟩ := hp.2 _ (pt_wf hm.1 mt_wf0) h2
  obtain ⟨s, _, es⟩ := hm.2.2 r' w' s'
  have h3 := es p (by omega)
  rw [e' p hp74, gr_put_eq] at h3
  have h4 := mt_sub_len s (c p)
  rw [← h3] at h4
  exact h4
def updG {α : Type} (F : Nat → α) (f : Nat) (x : α) : Nat → α := fun g => if g = f then x else F g
theorem uG_s {α : Type} {F : Nat → α} {f : Nat} {x : α} : updG F f x f = x := if_pos rfl
theorem uG_n {α : Type} {F : Nat → α} {f g : Nat} {x : α} (h : g ≠ f) : updG F f x g = F g := if_neg h

variable {f_saidPlace f_instanceCount f_nodeCount f_equationCount f_stackCount f_wordCount f_depth f_cellCount f_consCount f_closureCount f_stepCount f_runAnswer f_writtenCount : Int32} {a_kinds a_values a_spans a_bounds a_binders a_lengths a_parameterCounts a_typeCodes a_typeLengths a_instanceFunctions a_nodeKinds a_nodeLefts a_nodeRights a_nodeSizes a_equationLefts a_equationRights a_stackLefts a_stackRights a_words a_boundWords a_cellFirsts a_cellSeconds a_closureTokens a_closureWords a_written : Nat → Int32}
section mk
variable {ln P : Nat → Nat} {kN : Nat → Nat → Nat} {vl : Nat → Nat → Int32} {oc sp bd bi : Nat → Nat → Nat} {cod : Nat → List Nat}
/-- the rules of function g, for the types L -/
def iS (ln P : Nat → Nat) (kN : Nat → Nat → Nat) (vl : Nat → Nat → Int32) (oc sp bd bi : Nat → Nat → Nat) (cod : Nat → List Nat) (g : Nat) (L : List Nat) (r : Nat → mt_T) : Prop :=
  S_t (fun r => sc_inst L ((List.range (P g)).map (fun j => r (72 + j)) ++ [r 0])) g (kN g) (vl g) (oc g) (sp g) (bd g) (bi g) cod (ln g) r
/-- types of the calls in a body, of which c are the types -/
def cq (oc sp : Nat → Nat) (c : Nat → mt_T) (t : Nat) : List Nat := cl_0 (mt_encs ((ca_st (jp sp t) t (oc t)).map c))
/-- making, from number i on: R all that is made, none if something is too large -/
def mk_is (ln P : Nat → Nat) (kN : Nat → Nat → Nat) (vl : Nat → Nat → Int32) (oc sp bd bi : Nat → Nat → Nat) (cod : Nat → List Nat) : Nat → Nat → List (Nat × List Nat) → Option (List (Nat × List Nat)) → Prop
  | 0, _, _, _ => False
  | k + 1, i, I, R => (I.length ≤ i ∧ R = some I) ∨ (i < I.length ∧ ∃ (N : Nat) (Sol : (Nat → mt_T) → Prop) (c : Nat → mt_T), 74 ≤ N ∧ mg_is N Sol c ∧ pj_is 74 Sol (iS ln P kN vl oc sp bd bi cod (I.getD i (0, [])).1 (I.getD i (0, [])).2) ∧
      ((∃ p, p < 74 ∧ 14 < (mt_enc (c p)).length) ∧ R = none ∨ (∀ p, p < 74 → (mt_enc (c p)).length ≤ 14) ∧
        (fld (kN (I.getD i (0, [])).1) (vnf vl (I.getD i (0, [])).1) (cq (oc (I.getD i (0, [])).1) (sp (I.getD i (0, [])).1) c) (ln (I.getD i (0, [])).1) 0 I = none ∧ R = none ∨
         ∃ I', fld (kN (I.getD i (0, [])).1) (vnf vl (I.getD i (0, [])).1) (cq (oc (I.getD i (0, [])).1) (sp (I.getD i (0, [])).1) c) (ln (I.getD i (0, [])).1) 0 I = some I' ∧ mk_is ln P kN vl oc sp bd bi cod k (i + 1) I' R)))
/-- types that a function can have -/
def in_ok (ln P : Nat → Nat) (cod : Nat → List Nat) (x : Nat × List Nat) : Prop := x.1 < 5 ∧ ln x.1 ≠ 0 ∧ x.2.length ≤ 14 * (P x.1 + 1) ∧ (∀ k, k < x.2.length → x.2.getD k 0 < 60) ∧ ∃ ts, (∀ t ∈ ts, mt_wf t) ∧ mt_encs ts = x.2 ∧ ts.length = P x.1 + 1 ∧ sc_inst (cod x.1) ts
theorem sc_self {ts : List mt_T} (hw : ∀ t ∈ ts, mt_wf t) : sc_inst (mt_encs ts) ts :=
  ⟨ts, hw, rfl, fun v => .leaf (10 + v), fun v => mt_wfv v, by rw [show (mt_sub fun v => .leaf (10 + v)) = id from funext mt_sub_id, List.map_id]⟩
/-- it has types -/
theorem in_sol (hlib : lib ln P kN vl oc sp bd bi cod) {x : Nat × List Nat} (h : in_ok ln P cod x) : ∃ r, (∀ n, mt_wf (r n)) ∧ iS ln P kN vl oc sp bd bi cod x.1 x.2 r := by
  obtain ⟨h1, h2, _, _, ts, h3, h4, h5, h6⟩ := h
  obtain ⟨r, r1, r2, r3⟩ := ((hlib x.1 h1 h2).2.2.2.2.2.2.2.2.2 ts).mp h6
  refine ⟨r, r1, ?_, r2.2⟩
  show sc_inst x.2 _
  rw [sc_ow, ← r3, ← h4]
  exact sc_self h3
/-- the types of a call -/
theorem in_call (hlib : lib ln P kN vl oc sp bd bi cod) {x : Nat × List Nat} (h : in_ok ln P cod x) {N : Nat} {Sol : (Nat → mt_T) → Prop} {c : Nat → mt_T} (hm : mg_is N Sol c) (hp : pj_is 74 Sol (iS ln P kN vl oc sp bd bi cod x.1 x.2)) (h14 : ∀ p, p < 74 → (mt_enc (c p)).length ≤ 14)
    {t : Nat} (ht : t < ln x.1) (k4 : kN x.1 t = 4) : in_ok ln P cod (vnf vl x.1 t, cq (oc x.1) (sp x.1) c t) := by
  obtain ⟨h1, h2, _⟩ := h
  obtain ⟨l1, l2, l3, l4, l5, l6, l7, l8, l9, l10⟩ := hlib x.1 h1 h2
  obtain ⟨g, g1, g2, g3, g4⟩ := l6 t ht k4
  have ev : vnf vl x.1 t = g := by unfold vnf; rw [g2, nI_clamp (by omega)]
  have n24 := l1.1
  have hst : ∀ y ∈ ca_st (jp (sp x.1) t) t (oc x.1 t), y < 24 := ca_lt (fun j hj => by have := (bw_in l1.2.1 ht hj).2.2; omega) (by omega)
  have hlen : (mt_encs ((ca_st (jp (sp x.1) t) t (oc x.1 t)).map c)).length ≤ 14 * (P g + 1) := by
    have := encs_le (ts := (ca_st (jp (sp x.1) t) t (oc x.1 t)).map c) (b := 14) (fun y hy => by
      obtain ⟨z, hz, rfl⟩ := List.mem_map.mp hy
      exact h14 z (by have := hst z hz; omega))
    rw [List.length_map, ca_len] at this
    rw [← g4]; exact this
  have hwm : ∀ y ∈ (ca_st (jp (sp x.1) t) t (oc x.1 t)).map c, mt_wf y := by
    intro y hy
    obtain ⟨z, _, rfl⟩ := List.mem_map.mp hy
    exact hm.1 z
  have hr0 := hm.2.1 (fun _ => .leaf 0) (fun _ => mt_wf0)
  have hw0 : ∀ n, mt_wf (mt_sub (fun _ => .leaf 0) (c n)) := fun n => mt_sub_wf (fun _ => mt_wf0) _ (hm.1 n)
  have hS := hp.1 _ hw0 hr0
  have hru := hS.2 t ht
  rw [ev]
  unfold cq
  refine ⟨g1, g3, by rw [cl_len]; exact hlen, fun k hk => ?_, ((ca_st (jp (sp x.1) t) t (oc x.1 t)).map c).map (mt_sub (fun _ => .leaf 0)), fun y hy => ?_, cl_encs _ hwm, by rw [List.length_map, List.length_map, ca_len, g4], ?_⟩
  · rw [cl_len] at hk
    show (cl_0 (mt_encs ((ca_st (jp (sp x.1) t) t (oc x.1 t)).map c))).getD k 0 < 60
    rw [cl_gd _ k hk]; split <;> omega
  · obtain ⟨z, hz, rfl⟩ := List.mem_map.mp hy
    exact mt_sub_wf (fun _ => mt_wf0) _ (hwm z hz)
  · show sc_inst (cod g) _
    unfold ru_t at hru
    rw [k4, g2, nI_clamp (by omega)] at hru
    have e : ((ca_st (jp (sp x.1) t) t (oc x.1 t)).map c).map (mt_sub (fun _ => .leaf 0)) = (List.range (oc x.1 t)).map (fun j => mt_sub (fun _ => .leaf 0) (c (jp (sp x.1) t j))) ++ [mt_sub (fun _ => .leaf 0) (c t)] := by
      unfold ca_st; simp [List.map_map, Function.comp_def]
    rw [e]
    by_cases w : g = x.1
    · rw [decide_eq_true w] at hru
      obtain ⟨a, b⟩ := hru
      dsimp only at a b
      have e2 : (List.range (oc x.1 t)).map (fun j => mt_sub (fun _ => .leaf 0) (c (jp (sp x.1) t j))) = (List.range (P g)).map (fun j => mt_sub (fun _ => .leaf 0) (c (72 + j))) := by
        rw [← g4]
        exact List.map_congr_left (fun j hj => a j (List.mem_range.mp hj))
      rw [e2, b, sc_ow (P := P g) (fun n => mt_sub (fun _ => .leaf 0) (c n)), w]
      exact (l10 _).mpr ⟨fun n => mt_sub (fun _ => .leaf 0) (c n), hw0, ⟨trivial, hS.2⟩, rfl⟩
    · rw [decide_eq_false w] at hru
      exact hru
theorem lx_row {ki va spa bou bin len pc tc tl tc' tl' : Nat → Int32} (h : lx_ok ln P kN vl sp bd bi cod ki va spa bou bin len pc tc tl) (hs : lw_same tc tl tc' tl') : lx_ok ln P kN vl sp bd bi cod ki va spa bou bin len pc tc' tl' := by
  intro g hg
  obtain ⟨a, b, c⟩ := h g hg
  refine ⟨a, b, fun hl => ?_⟩
  obtain ⟨d, e, r1, r2, r3, r4⟩ := c hl
  refine ⟨d, e, r1, r2, by rw [hs.2 g hg]; exact r3, fun k hk => ?_⟩
  rw [hs.1 _ (by omega)]; exact r4 k hk
theorem x_mk0 {post : Int32 → SX → Prop} {fu : Nat} {x3 : Int32} (h : wX_make_102 post 0 f_saidPlace f_instanceCount f_nodeCount f_equationCount f_stackCount f_wordCount f_depth f_cellCount f_consCount f_closureCount f_stepCount f_runAnswer f_writtenCount a_kinds a_values a_spans a_bounds a_binders a_lengths a_parameterCounts a_typeCodes a_typeLengths a_instanceFunctions a_nodeKinds a_nodeLefts a_nodeRights a_nodeSizes a_equationLefts a_equationRights a_stackLefts a_stackRights a_words a_boundWords a_cellFirsts a_cellSeconds a_closureTokens a_closureWords a_written) : wX_make_38 post (fu + 1) 0 x3 f_saidPlace f_instanceCount f_nodeCount f_equationCount f_stackCount f_wordCount f_depth f_cellCount f_consCount f_closureCount f_stepCount f_runAnswer f_writtenCount a_kinds a_values a_spans a_bounds a_binders a_lengths a_parameterCounts a_typeCodes a_typeLengths a_instanceFunctions a_nodeKinds a_nodeLefts a_nodeRights a_nodeSizes a_equationLefts a_equationRights a_stackLefts a_stackRights a_words a_boundWords a_cellFirsts a_cellSeconds a_closureTokens a_closureWords a_written :=
  br_c (fun _ => h) (fun _ => br_c (fun _ => h) (fun _ => br_t rfl h))
theorem x_mk38 {post : Int32 → SX → Prop} {tc0 tl0 : Nat → Int32} {i0 : Nat} {I0 : List (Nat × List Nat)} (hlib : lib ln P kN vl oc sp bd bi cod) (hlx : lx_ok ln P kN vl sp bd bi cod a_kinds a_values a_spans a_bounds a_binders a_lengths a_parameterCounts tc0 tl0)
    (hP1 : ∀ I' nc ec sc ifn tc tl K nl nr sz el er sl sr, mk_is ln P kN vl oc sp bd bi cod 13 i0 I0 (some I') → xI I' ifn tc tl → I'.length ≤ 12 → lw_same tc0 tl0 tc tl →
      wX_make_102 post 1 f_saidPlace (nI I'.length) nc ec sc f_wordCount f_depth f_cellCount f_consCount f_closureCount f_stepCount f_runAnswer f_writtenCount a_kinds a_values a_spans a_bounds a_binders a_lengths a_parameterCounts tc tl ifn K nl nr sz el er sl sr a_words a_boundWords a_cellFirsts a_cellSeconds a_closureTokens a_closureWords a_written)
    (hP0 : ∀ ic nc ec sc ifn tc tl K nl nr sz el er sl sr, mk_is ln P kN vl oc sp bd bi cod 13 i0 I0 none → lw_same tc0 tl0 tc tl →
      wX_make_102 post 0 f_saidPlace ic nc ec sc f_wordCount f_depth f_cellCount f_consCount f_closureCount f_stepCount f_runAnswer f_writtenCount a_kinds a_values a_spans a_bounds a_binders a_lengths a_parameterCounts tc tl ifn K nl nr sz el er sl sr a_words a_boundWords a_cellFirsts a_cellSeconds a_closureTokens a_closureWords a_written) :
    ∀ k i fu I nc ec sc ifn tc tl K nl nr sz el er sl sr, i + k = 12 → k + 1 < fu → xI I ifn tc tl → I.length ≤ 12 → (∀ x ∈ I, in_ok ln P cod x) → lw_same tc0 tl0 tc tl → (∀ R, mk_is ln P kN vl oc sp bd bi cod (k + 1) i I R → mk_is ln P kN vl oc sp bd bi cod 13 i0 I0 R) →
      wX_make_38 post fu 1 (nI i) f_saidPlace (nI I.length) nc ec sc f_wordCount f_depth f_cellCount f_consCount f_closureCount f_stepCount f_runAnswer f_writtenCount a_kinds a_values a_spans a_bounds a_binders a_lengths a_parameterCounts tc tl ifn K nl nr sz el er sl sr a_words a_boundWords a_cellFirsts a_cellSeconds a_closureTokens a_closureWords a_written := by
  intro k
  induction k with
  | zero =>
    intro i fu I nc ec sc ifn tc tl K nl nr sz el er sl sr hi hfu hI h12 hok hlw hmk
    obtain ⟨fu, rfl⟩ : ∃ g, fu = g + 1 := ⟨fu - 1, by omega⟩
    exact br_t (nI_le (a := 12) (by omega) (by omega)) (hP1 I nc ec sc ifn tc tl K nl nr sz el er sl sr (hmk _ (Or.inl ⟨by omega, rfl⟩)) hI h12 hlw)
  | succ k ih =>
    intro i fu I nc ec sc ifn tc tl K nl nr sz el er sl sr hi hfu hI h12 hok hlw hmk
    obtain ⟨fu, rfl⟩ : ∃ g, fu = g + 1 := ⟨fu - 1, by omega⟩
    refine br_f (nI_ge (b := 12) (by omega) (by omega)) (pk_le I.length i (fun z => hP1 I nc ec sc ifn tc tl K nl nr sz el er sl sr (hmk _ (Or.inl ⟨z, rfl⟩)) hI h12 hlw) (fun z => br_f n1_0 (And.intro (pk_in i 12 (by omega)) ?_)))
    have hx := hok _ (mem_gd (d := (0, [])) z)
    obtain ⟨a1, a2, a3⟩ := hI i z
    generalize hgx : I.getD i (0, []) = x at *
    obtain ⟨h1, h2, h3, h60, ts, h4, h5, h6, h7⟩ := hx
    have hx : in_ok ln P cod x := ⟨h1, h2, h3, h60, ts, h4, h5, h6, h7⟩
    have hlx' := lx_row hlx hlw
    obtain ⟨l1, l2, l3, l4, l5, l6, l7, l8, l9, l10⟩ := hlib x.1 h1 h2
    have n24 := l1.1
    refine nm_r (e' := nI x.1) (by rw [nI_clamp (by omega), a2]) ?_
    rw [show (5 : Int32) + nI i = nI (5 + i) from nI_add 5 i]
    refine x_illi (f_nodeCount := nc) (f_equationCount := ec) (a_nodeKinds := K) (a_nodeLefts := nl) (a_nodeRights := nr) (a_nodeSizes := sz) (a_equationLefts := el) (a_equationRights := er) (f := x.1) (n := ln x.1) (P := P x.1) (Lc := x.2) (ts := ts) h1 (by omega) (hlx' x.1 h1).1 (lib_xb hlib hlx' h1 h2) (lib_fn hlib hlx' h1 h2) l3 ((hlx' x.1 h1).2.2 h2).1 a3 h4 h5 h6 (fun N K nl nr sz el er L R rt ds c n1 n2 hg hm hv hz hp h75 => ?_) (in_sol hlib hx)
    obtain ⟨c74, c75⟩ := h75 c hm.1 (mg_self hm)
    refine x_large (N := N) (c := c) n1 hz (fun hbig => br_f n1_0 (nm_e ?_)) (fun hsm => br_t rfl ?_)
    · obtain ⟨fu, rfl⟩ : ∃ g, fu = g + 1 := ⟨fu - 1, by omega⟩
      refine x_mk0 (hP0 _ _ _ _ ifn tc tl K nl nr sz el er sl sr (hmk _ (Or.inr ⟨z, N, _, c, by omega, hm, by rw [hgx]; exact hp, Or.inl ⟨?_, rfl⟩⟩)) hlw)
      obtain ⟨p, p1, p2⟩ := hbig
      by_cases w : p < 74
      · exact ⟨p, w, p2⟩
      · exfalso
        have : p = 74 ∨ p = 75 := by omega
        rcases this with rfl | rfl
        · rw [c74] at p2; simp [mt_enc] at p2
        · rw [c75] at p2; simp [mt_enc] at p2
    · have h14 : ∀ p, p < 74 → (mt_enc (c p)).length ≤ 14 := fun p hp => hsm p (by omega)
      refine Exists.intro (ln x.1 + 1) ?_
      refine x_ac4 (RS := fld (kN x.1) (vnf vl x.1) (cq (oc x.1) (sp x.1) c) (ln x.1) 0 I) (tc0 := tc0) (tl0 := tl0) (n := ln x.1) (kN := kN x.1) (vN := vnf vl x.1) (oc := oc x.1) (sp := sp x.1) (c := c) h1 n24 (hlx' x.1 h1).1 n1 (by omega) (fun t ht => ?_) hg hm hv h14 (fun I' sc' ifn' tc' tl' sl' sr' e1 x1 x2 x3 => ?_) (fun ic' sc' ifn' tc' tl' sl' sr' e0 x3 => ?_) (ln x.1) 0 (ln x.1 + 1) I _ ifn tc tl sl sr (by omega) (by omega) hI h12 hlw rfl
      · obtain ⟨y1, y2, y3, y4, y5⟩ := ((hlx' x.1 h1).2.2 h2).2.1 t ht
        refine ⟨y1, (l1.2.2.2.2 t ht).1, fun k4 => ?_⟩
        obtain ⟨g, g1, g2, g3, g4⟩ := l6 t ht k4
        have ev : vnf vl x.1 t = g := by unfold vnf; rw [g2, nI_clamp (by omega)]
        rw [ev]
        obtain ⟨u1, u2, u3⟩ := hlx' g g1
        refine ⟨g1, by rw [y2, g2], by rw [g4]; exact (hlib g g1 g3).2.2.1, by rw [u1]; exact fun w => g3 ((nI0 (by omega)).mp w), by rw [g4]; exact (u3 g3).1, fun j hj => ?_⟩
        have hb := (bw_in l1.2.1 ht hj).2.2
        exact ⟨hb, (((hlx' x.1 h1).2.2 h2).2.1 _ hb).2.2.1⟩
      · refine br_f n1_0 (nm_r (nI_1 i) (ih (i + 1) fu I' _ _ sc' ifn' tc' tl' K nl nr sz el er sl' sr' (by omega) (by omega) x1 x2 (fun y hy => ?_) x3 (fun R hR => hmk R (Or.inr ⟨z, N, _, c, by omega, hm, by rw [hgx]; exact hp, Or.inr ⟨h14, Or.inr ⟨I', by rw [hgx]; exact e1, hR⟩⟩⟩))))
        obtain ⟨J, j1, j2⟩ := fld_ext (p := in_ok ln P cod) (ln x.1) 0 I I' (fun s _ hs k4 => in_call hlib hx hm hp h14 (by omega) k4) e1
        rw [j1] at hy
        rcases List.mem_append.mp hy with w | w
        · exact hok y w
        · exact j2 y w
      · refine br_t rfl (nm_e ?_)
        obtain ⟨fu, rfl⟩ : ∃ g, fu = g + 1 := ⟨fu - 1, by omega⟩
        exact x_mk0 (hP0 _ _ _ sc' ifn' tc' tl' K nl nr sz el er sl' sr' (hmk _ (Or.inr ⟨z, N, _, c, by omega, hm, by rw [hgx]; exact hp, Or.inr ⟨h14, Or.inl ⟨by rw [hgx]; exact e0, rfl⟩⟩⟩)) x3)
end mk

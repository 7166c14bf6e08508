theorem mt_mem_encs {c : Nat} : ∀ ts : List mt_T, c ∈ mt_encs ts ↔ ∃ t, t ∈ ts ∧ c ∈ mt_enc t := by
  intro ts
  induction ts with
  | nil => simp [mt_encs]
  | cons t ts ih => simp only [mt_encs, List.mem_append, ih, List.mem_cons, exists_eq_or_imp]
theorem mt_encs_rn {s : Nat → mt_T} {g : Nat → Nat} : ∀ ts : List mt_T, (∀ t ∈ ts, mt_wf t) → (∀ v, 10 + v ∈ mt_encs ts → s v = .leaf (g v)) →
    mt_encs (ts.map (mt_sub s)) = (mt_encs ts).map (mt_rn g) := by
  intro ts
  induction ts with
  | nil => intro _ _; rfl
  | cons t ts ih =>
    intro hw h
    simp only [List.map_cons, mt_encs, List.map_append]
    rw [ih (fun x hx => hw x (by simp [hx])) (fun v hv => h v (by simp only [mt_encs, List.mem_append]; exact Or.inr hv)),
      mt_enc_rn t (hw t (by simp)) (fun v hv => h v (by simp only [mt_encs, List.mem_append]; exact Or.inl hv))]
theorem mt_subs_congr {s s' : Nat → mt_T} {ts : List mt_T} (hw : ∀ t ∈ ts, mt_wf t) (h : ∀ v, 10 + v ∈ mt_encs ts → s v = s' v) :
    ts.map (mt_sub s) = ts.map (mt_sub s') := by
  apply List.map_congr_left
  intro t ht
  exact mt_sub_congr t (hw t ht) (fun v hv => h v ((mt_mem_encs ts).mpr ⟨t, ht, hv⟩))
def mt_lf : mt_T → Nat
  | .leaf n => n
  | .branch _ _ _ => 0
/-- two lists of trees, each an image of the other, have the same numbered codes -/
theorem mt_agree {ts us : List mt_T} {a b : Nat → mt_T} (ht : ∀ t ∈ ts, mt_wf t) (hu : us = ts.map (mt_sub a)) (hb : ts = us.map (mt_sub b)) :
    cn_go [] (mt_encs us) = cn_go [] (mt_encs ts) := by
  have hv : ∀ v, 10 + v ∈ mt_encs ts → mt_sub b (a v) = .leaf (10 + v) := by
    intro v hv
    obtain ⟨t, htm, hvt⟩ := (mt_mem_encs ts).mp hv
    have e : ts.map (fun t => mt_sub b (mt_sub a t)) = ts.map (fun t => t) := by
      rw [List.map_id']
      conv => rhs; rw [hb, hu, List.map_map]
      rfl
    have e1 := List.map_inj_left.mp e t htm
    simp only [mt_sub_sub] at e1
    have e2 : mt_sub (fun v => mt_sub b (a v)) t = mt_sub (fun v => .leaf (10 + v)) t := by rw [e1, mt_sub_id]
    exact mt_sub_inj t (ht t htm) e2 v hvt
  have hg : ∃ g : Nat → Nat, ∀ v, 10 + v ∈ mt_encs ts → a v = .leaf (g v) ∧ ¬ g v < 10 ∧ b (g v - 10) = .leaf (10 + v) := by
    refine ⟨fun v => mt_lf (a v), ?_⟩
    intro v hm
    have h := hv v hm
    dsimp only
    generalize a v = t at h
    cases t with
    | leaf n =>
      by_cases hl : n < 10
      · simp only [mt_sub, if_pos hl, Lean.RArray.leaf.injEq] at h; omega
      · simp only [mt_sub, if_neg hl] at h
        exact ⟨rfl, hl, h⟩
    | branch c x y => simp only [mt_sub] at h; cases h
  obtain ⟨g, hg⟩ := hg
  rw [hu, mt_encs_rn ts ht (fun v hm => (hg v hm).1)]
  have hoc : ∀ c, c ∈ mt_encs ts → ¬ c < 10 → 10 + (c - 10) ∈ mt_encs ts := by
    intro c hc hl
    have : 10 + (c - 10) = c := by omega
    rw [this]; exact hc
  refine cn_go_f (f := mt_rn g) (mt_encs ts) [] ?_ ?_ ?_ ?_
  · intro c _ hl; simp only [mt_rn, if_pos hl]
  · intro c hc hl; simp only [mt_rn, if_neg hl]; exact (hg _ (hoc c hc hl)).2.1
  · intro c d hc hd hlc hld e
    simp only [mt_rn, if_neg hlc, if_neg hld] at e
    have hc' : c ∈ mt_encs ts := by rcases hc with hc | hc; exact hc; simp at hc
    have hd' : d ∈ mt_encs ts := by rcases hd with hd | hd; exact hd; simp at hd
    have h1 := (hg _ (hoc c hc' hlc)).2.2
    have h2 := (hg _ (hoc d hd' hld)).2.2
    rw [e, h2] at h1
    simp only [Lean.RArray.leaf.injEq] at h1
    omega
  · intro d hd; simp at hd
/-- tp is what the codes L say, the variables in it standing for any types -/
def sc_inst (L : List Nat) (tp : List mt_T) : Prop :=
  ∃ ts : List mt_T, (∀ t ∈ ts, mt_wf t) ∧ mt_encs ts = L ∧ ∃ s : Nat → mt_T, (∀ v, mt_wf (s v)) ∧ tp = ts.map (mt_sub s)
/-- c is a most general solution on the nodes below N -/
def mg_is (N : Nat) (Sol : (Nat → mt_T) → Prop) (c : Nat → mt_T) : Prop :=
  (∀ n, mt_wf (c n)) ∧ (∀ s : Nat → mt_T, (∀ v, mt_wf (s v)) → Sol (fun n => mt_sub s (c n))) ∧
  (∀ r : Nat → mt_T, (∀ n, mt_wf (r n)) → Sol r → ∃ s : Nat → mt_T, (∀ v, mt_wf (s v)) ∧ ∀ n, n < N → r n = mt_sub s (c n))
theorem mg_inst {N : Nat} {Sol : (Nat → mt_T) → Prop} {c : Nat → mt_T} (h : mg_is N Sol c) (ns : List Nat) (hn : ∀ n ∈ ns, n < N) (tp : List mt_T) :
    (∃ r : Nat → mt_T, (∀ n, mt_wf (r n)) ∧ Sol r ∧ tp = ns.map r) ↔ sc_inst (cn_go [] (mt_encs (ns.map c))) tp := by
  have hw : ∀ t ∈ ns.map c, mt_wf t := by
    intro t ht
    obtain ⟨n, _, rfl⟩ := List.mem_map.mp ht
    exact h.1 n
  let raw := mt_encs (ns.map c)
  let W := cn_seen [] raw
  let g : Nat → Nat := fun v => 10 + cn_ix (10 + v) W
  let ts := (ns.map c).map (mt_sub (fun v => .leaf (g v)))
  have he : mt_encs ts = cn_go [] raw := by
    rw [cn_go_map]
    exact mt_encs_rn (ns.map c) hw (fun v _ => rfl)
  have htw : ∀ t ∈ ts, mt_wf t := by
    intro t ht
    obtain ⟨x, hx, rfl⟩ := List.mem_map.mp ht
    exact mt_sub_wf (fun v => mt_wfv _) x (hw x hx)
  constructor
  · rintro ⟨r, hr, hS, rfl⟩
    obtain ⟨s, hs, e⟩ := h.2.2 r hr hS
    refine ⟨ts, htw, he, fun k => s (W.getD k 0 - 10), fun v => hs _, ?_⟩
    have e1 : ns.map r = (ns.map c).map (mt_sub s) := by
      rw [List.map_map]
      exact List.map_congr_left (fun n hm => e n (hn n hm))
    rw [e1]
    show _ = ((ns.map c).map (mt_sub (fun v => .leaf (g v)))).map (mt_sub (fun k => s (W.getD k 0 - 10)))
    rw [List.map_map (l := ns.map c)]
    have e2 : (mt_sub (fun k => s (W.getD k 0 - 10)) ∘ mt_sub (fun v => .leaf (g v))) = mt_sub (fun v => mt_sub (fun k => s (W.getD k 0 - 10)) (.leaf (g v))) := by
      funext t; exact mt_sub_sub _ _ t
    rw [e2]
    refine mt_subs_congr hw (fun v hv => ?_)
    have hm : 10 + v ∈ W := cn_seen_mem raw [] (10 + v) (by omega) (Or.inl hv)
    have hl : ¬ g v < 10 := by show ¬ 10 + _ < 10; omega
    rw [mt_sub, if_neg hl]
    have hg : g v - 10 = cn_ix (10 + v) W := by show 10 + _ - 10 = _; omega
    rw [hg, cn_ix_get W hm]
    congr 1; omega
  · rintro ⟨ts', hw', he', s, hs, rfl⟩
    have e : ts' = ts := mt_decs ts' ts hw' htw (he'.trans he.symm)
    subst e
    refine ⟨fun n => mt_sub (fun v => mt_sub s (.leaf (g v))) (c n), fun n => mt_sub_wf (fun v => mt_sub_wf hs _ (mt_wfv _)) _ (h.1 n), h.2.1 _ (fun v => mt_sub_wf hs _ (mt_wfv _)), ?_⟩
    show ((ns.map c).map (mt_sub (fun v => .leaf (g v)))).map (mt_sub s) = _
    rw [List.map_map, List.map_map]
    apply List.map_congr_left
    intro n _
    exact mt_sub_sub _ _ (c n)
/-- Sol, on the nodes below B, is S -/
def pj_is (B : Nat) (Sol S : (Nat → mt_T) → Prop) : Prop :=
  (∀ r : Nat → mt_T, (∀ n, mt_wf (r n)) → Sol r → S r) ∧
  (∀ r : Nat → mt_T, (∀ n, mt_wf (r n)) → S r → ∃ r' : Nat → mt_T, (∀ n, mt_wf (r' n)) ∧ Sol r' ∧ ∀ n, n < B → r' n = r n)
theorem mg_self {N : Nat} {Sol : (Nat → mt_T) → Prop} {c : Nat → mt_T} (h : mg_is N Sol c) : Sol c := by
  have := h.2.1 (fun v => .leaf (10 + v)) (fun v => mt_wfv v)
  simp only [mt_sub_id] at this
  exact this
theorem pj_one {B N M : Nat} {Sa Sb S : (Nat → mt_T) → Prop} {c d : Nat → mt_T} (hM : B ≤ M) (hX : mg_is N Sa c) (pX : pj_is B Sa S) (hY : mg_is M Sb d) (pY : pj_is B Sb S) :
    ∃ s : Nat → mt_T, ∀ n, n < B → c n = mt_sub s (d n) := by
  obtain ⟨r, hr, hS, e⟩ := pY.2 c hX.1 (pX.1 c hX.1 (mg_self hX))
  obtain ⟨s, _, es⟩ := hY.2.2 r hr hS
  exact ⟨s, fun n hn => by rw [← e n hn]; exact es n (by omega)⟩
theorem pj_codes {B N M : Nat} {Sa Sb S : (Nat → mt_T) → Prop} {c d : Nat → mt_T} (hN : B ≤ N) (hM : B ≤ M) (hX : mg_is N Sa c) (pX : pj_is B Sa S) (hY : mg_is M Sb d) (pY : pj_is B Sb S)
    (ns : List Nat) (hn : ∀ n ∈ ns, n < B) : cn_go [] (mt_encs (ns.map c)) = cn_go [] (mt_encs (ns.map d)) := by
  obtain ⟨s, hs⟩ := pj_one hM hX pX hY pY
  obtain ⟨s', hs'⟩ := pj_one hN hY pY hX pX
  refine mt_agree (a := s) (b := s') ?_ ?_ ?_
  · intro t ht
    obtain ⟨n, _, rfl⟩ := List.mem_map.mp ht
    exact hY.1 n
  · rw [List.map_map]; exact List.map_congr_left (fun n hm => hs n (hn n hm))
  · rw [List.map_map]; exact List.map_congr_left (fun n hm => hs' n (hn n hm))
theorem pj_len {B N M : Nat} {Sa Sb S : (Nat → mt_T) → Prop} {c d : Nat → mt_T} (hN : B ≤ N) (hM : B ≤ M) (hX : mg_is N Sa c) (pX : pj_is B Sa S) (hY : mg_is M Sb d) (pY : pj_is B Sb S)
    (n : Nat) (hn : n < B) : (mt_enc (c n)).length = (mt_enc (d n)).length := by
  obtain ⟨s, hs⟩ := pj_one hM hX pX hY pY
  obtain ⟨s', hs'⟩ := pj_one hN hY pY hX pX
  have h1 := mt_sub_len s (d n)
  have h2 := mt_sub_len s' (c n)
  rw [← hs n hn] at h1
  rw [← hs' n hn] at h2
  omega
/-- the variables that are left over being INT -/
def cl_0 (L : List Nat) : List Nat := L.map (mt_rn (fun _ => 0))
theorem cl_go (L : List Nat) : cl_0 (cn_go [] L) = cl_0 L := by
  rw [cn_go_map]
  simp only [cl_0, List.map_map]
  apply List.map_congr_left
  intro c _
  by_cases h : c < 10
  · simp only [Function.comp, mt_rn, if_pos h]
  · have : ¬ 10 + cn_ix (10 + (c - 10)) (cn_seen [] L) < 10 := by omega
    simp only [Function.comp, mt_rn, if_neg h, if_neg this]
theorem cl_encs (ts : List mt_T) (h : ∀ t ∈ ts, mt_wf t) : mt_encs (ts.map (mt_sub (fun _ => .leaf 0))) = cl_0 (mt_encs ts) :=
  mt_encs_rn ts h (fun _ _ => rfl)

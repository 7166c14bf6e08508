variable {yf_place yf_points yf_names yf_textEnd yf_made yf_entry yf_waiting yf_values yf_bound yf_cells yf_conses yf_lams yf_steps yf_atWork yf_end yf_writtenCount : Int32} {ya_kind ya_up ya_turn ya_depth ya_value ya_below ya_length ya_parameters ya_codes ya_codeCount ya_form ya_colour ya_same ya_one ya_two ya_todo ya_numbered ya_text ya_ofFunction ya_codeEnd ya_instance ya_token ya_env ya_tag ya_cellEnv ya_boundNext ya_step ya_boundNumber ya_boundTag ya_headTag ya_tailTag ya_number ya_boundValue ya_head ya_tail ya_written : Nat → Int32}
theorem sx_1 : ∀ us : List mt_T, (∀ t ∈ us, mt_wf t) → ∀ (c : Nat) (l : List Nat), mt_encs us = c :: l → ∃ u rest, us = u :: rest ∧ mt_hd u = c ∧ ∃ ws, (∀ t ∈ ws, mt_wf t) ∧ mt_encs ws = l ∧
    (((∃ n, u = .leaf n) ∧ ws = rest) ∨ (∃ a, u = .branch 3 a (.leaf 0) ∧ ws = a :: rest) ∨ (∃ a b, (c = 2 ∨ c = 4) ∧ u = .branch c a b ∧ ws = a :: b :: rest)) := by
  intro us hw c l h
  cases us with
  | nil => simp [mt_encs] at h
  | cons u rest =>
    have hwu := hw u (by simp)
    have hwr : ∀ t ∈ rest, mt_wf t := fun t ht => hw t (by simp [ht])
    cases u with
    | leaf n =>
      simp only [mt_encs, mt_enc, List.cons_append, List.nil_append, List.cons.injEq] at h
      exact ⟨.leaf n, rest, rfl, h.1, rest, hwr, h.2, Or.inl ⟨⟨n, rfl⟩, rfl⟩⟩
    | branch d a b =>
      rcases hwu with ⟨z, ha, zb⟩ | ⟨z, ha, hb⟩
      · subst z; subst zb
        simp only [mt_encs, mt_enc, if_true, List.append_nil, List.cons_append, List.cons.injEq] at h
        refine ⟨_, rest, rfl, h.1, a :: rest, ?_, h.2, Or.inr (Or.inl ⟨a, rfl, rfl⟩)⟩
        intro t ht
        simp only [List.mem_cons] at ht
        rcases ht with rfl | ht
        · exact ha
        · exact hwr t ht
      · have h3 : ¬ d = 3 := by omega
        simp only [mt_encs, mt_enc, if_neg h3, List.cons_append, List.append_assoc, List.cons.injEq] at h
        refine ⟨_, rest, rfl, h.1, a :: b :: rest, ?_, h.2, Or.inr (Or.inr ⟨a, b, by omega, by rw [← h.1], rfl⟩)⟩
        intro t ht
        simp only [List.mem_cons] at ht
        rcases ht with rfl | rfl | ht
        · exact ha
        · exact hb
        · exact hwr t ht
theorem sx_all {ts : List mt_T} (hw : ∀ t ∈ ts, mt_wf t) : ∀ i, i ≤ (mt_encs ts).length → ∃ us, (∀ t ∈ us, mt_wf t) ∧ mt_encs us = (mt_encs ts).drop i := by
  intro i
  induction i with
  | zero => intro _; exact ⟨ts, hw, rfl⟩
  | succ i ih =>
    intro hi
    obtain ⟨us, hu, e⟩ := ih (by omega)
    have hd : (mt_encs ts).drop i = (mt_encs ts).getD i 0 :: (mt_encs ts).drop (i + 1) := by
      rw [List.drop_eq_getElem_cons (by omega)]
      simp [List.getD_eq_getElem?_getD, List.getElem?_eq_getElem (show i < (mt_encs ts).length by omega)]
    rw [hd] at e
    obtain ⟨_, _, _, _, ws, h1, h2, _⟩ := sx_1 us hu _ _ e
    exact ⟨ws, h1, h2⟩
/-- Y's stack of nodes from place 1000 on, the top first -/
def rk_ok (B N : Nat) (td : Nat → Int32) (st : List Nat) : Prop := (∀ n ∈ st, B ≤ n ∧ n < N) ∧ ∀ q, q < st.length → td (1000 + (st.length - 1 - q)) = nI (st.getD q 0)
theorem rk_push {B N n : Nat} {td : Nat → Int32} {st : List Nat} (h : rk_ok B N td st) (hn : B ≤ n ∧ n < N) : rk_ok B N (upd td (1000 + st.length) (nI n)) (n :: st) := by
  refine ⟨fun m hm => ?_, fun q hq => ?_⟩
  · simp only [List.mem_cons] at hm
    rcases hm with rfl | hm
    · exact hn
    · exact h.1 m hm
  · simp only [List.length_cons] at hq ⊢
    cases q with
    | zero =>
      have : st.length + 1 - 1 - 0 = st.length := by omega
      rw [this, pk_us]; rfl
    | succ q =>
      have : st.length + 1 - 1 - (q + 1) = st.length - 1 - q := by omega
      rw [this, pk_un (by omega), List.getD_cons_succ]
      exact h.2 q (by omega)
theorem rk_mono {B N M : Nat} {td : Nat → Int32} {st : List Nat} (h : rk_ok B N td st) (hM : N ≤ M) : rk_ok B M td st := ⟨fun n hn => ⟨(h.1 n hn).1, by have := (h.1 n hn).2; omega⟩, h.2⟩
theorem rk_pop {B N n : Nat} {td : Nat → Int32} {st : List Nat} (h : rk_ok B N td (n :: st)) : td (1000 + st.length) = nI n ∧ (B ≤ n ∧ n < N) ∧ rk_ok B N td st := by
  refine ⟨?_, h.1 n (by simp), fun m hm => h.1 m (by simp [hm]), fun q hq => ?_⟩
  · have := h.2 0 (by simp)
    simp only [List.length_cons, List.getD_cons_zero] at this
    have e : st.length + 1 - 1 - 0 = st.length := by omega
    rw [e] at this; exact this
  · have := h.2 (q + 1) (by simp only [List.length_cons]; omega)
    simp only [List.length_cons, List.getD_cons_succ] at this
    have e : st.length + 1 - 1 - (q + 1) = st.length - 1 - q := by omega
    rw [e] at this; exact this
/-- numbers of the variables of a row that is read -/
def rv_ok (B N : Nat) (K : Nat → Int32) (tg : Nat → mt_T) (nu : Nat → Int32) : Prop :=
  (∀ v, v < 50 → nu v = -1 ∨ ∃ n, nu v = nI n ∧ B ≤ n ∧ n < N ∧ K n = 10 ∧ tg n = .leaf (10 + v)) ∧ (∀ n v, B ≤ n → n < N → K n = 10 → tg n = .leaf (10 + v) → v < 50 ∧ nu v = nI n)
theorem tl_new {B N : Nat} {K : Nat → Int32} {L R : Nat → Nat} {tg : Nat → mt_T} (h : tl_is B N K L R tg) (c : Int32) (a b : Nat) (u : mt_T) (hu : mt_wf u)
    (hc : (c = 10 ∧ ∃ v, u = .leaf (10 + v)) ∨ (c = 0 ∧ u = .leaf 0) ∨ (c = 1 ∧ u = .leaf 1) ∨ (c = 3 ∧ B ≤ a ∧ a < N ∧ u = .branch 3 (tg a) (.leaf 0)) ∨
      (c = 2 ∧ B ≤ a ∧ a < N ∧ B ≤ b ∧ b < N ∧ u = .branch 2 (tg a) (tg b)) ∨ (c = 4 ∧ B ≤ a ∧ a < N ∧ B ≤ b ∧ b < N ∧ u = .branch 4 (tg a) (tg b))) :
    tl_is B (N + 1) (upd K N c) (updN L N a) (updN R N b) (gr_put tg N u) := by
  intro n h1 h2
  by_cases z : n = N
  · subst z
    rw [gr_put_eq, pk_us, uN_s, uN_s]
    refine ⟨hu, ?_⟩
    rcases hc with q | q | q | ⟨q, p1, p2, p3⟩ | ⟨q, p1, p2, p3, p4, p5⟩ | ⟨q, p1, p2, p3, p4, p5⟩
    · exact Or.inl q
    · exact Or.inr (Or.inr (Or.inl q))
    · exact Or.inr (Or.inr (Or.inr (Or.inl q)))
    · refine Or.inr (Or.inr (Or.inr (Or.inr (Or.inl ⟨q, p1, by omega, ?_⟩))))
      rw [gr_put_ne (by omega)]; exact p3
    · refine Or.inr (Or.inr (Or.inr (Or.inr (Or.inr (Or.inl ⟨q, p1, by omega, p3, by omega, ?_⟩)))))
      rw [gr_put_ne (by omega), gr_put_ne (by omega)]; exact p5
    · refine Or.inr (Or.inr (Or.inr (Or.inr (Or.inr (Or.inr ⟨q, p1, by omega, p3, by omega, ?_⟩)))))
      rw [gr_put_ne (by omega), gr_put_ne (by omega)]; exact p5
  · obtain ⟨w, q⟩ := h n h1 (by omega)
    rw [gr_put_ne z, pk_un z, uN_n z, uN_n z]
    refine ⟨w, ?_⟩
    rcases q with q | ⟨q, p1, p2, p3, p4⟩ | q | q | ⟨q, p1, p2, p3⟩ | ⟨q, p1, p2, p3, p4, p5⟩ | ⟨q, p1, p2, p3, p4, p5⟩
    · exact Or.inl q
    · refine Or.inr (Or.inl ⟨q, p1, by omega, ?_, ?_⟩)
      · rw [gr_put_ne (by omega)]; exact p3
      · rw [pk_un (by omega)]; exact p4
    · exact Or.inr (Or.inr (Or.inl q))
    · exact Or.inr (Or.inr (Or.inr (Or.inl q)))
    · refine Or.inr (Or.inr (Or.inr (Or.inr (Or.inl ⟨q, p1, by omega, ?_⟩))))
      rw [gr_put_ne (by omega)]; exact p3
    · refine Or.inr (Or.inr (Or.inr (Or.inr (Or.inr (Or.inl ⟨q, p1, by omega, p3, by omega, ?_⟩)))))
      rw [gr_put_ne (by omega), gr_put_ne (by omega)]; exact p5
    · refine Or.inr (Or.inr (Or.inr (Or.inr (Or.inr (Or.inr ⟨q, p1, by omega, p3, by omega, ?_⟩)))))
      rw [gr_put_ne (by omega), gr_put_ne (by omega)]; exact p5
theorem rv_mono {B N : Nat} {K : Nat → Int32} {tg : Nat → mt_T} {nu : Nat → Int32} (h : rv_ok B N K tg nu) (hB : B ≤ N) {c : Int32} {u : mt_T} (hc : c ≠ 10) : rv_ok B (N + 1) (upd K N c) (gr_put tg N u) nu := by
  refine ⟨fun v hv => ?_, fun n v h1 h2 h3 h4 => ?_⟩
  · rcases h.1 v hv with z | ⟨n, a, b, d, e, f⟩
    · exact Or.inl z
    · exact Or.inr ⟨n, a, b, by omega, by rw [pk_un (by omega)]; exact e, by rw [gr_put_ne (by omega)]; exact f⟩
  · by_cases z : n = N
    · subst z; rw [pk_us] at h3; exact absurd h3 hc
    · rw [pk_un z] at h3; rw [gr_put_ne z] at h4; exact h.2 n v h1 (by omega) h3 h4
theorem rv_new {B N : Nat} {K : Nat → Int32} {tg : Nat → mt_T} {nu : Nat → Int32} (h : rv_ok B N K tg nu) (hB : B ≤ N) (hN : N < 2 ^ 31) {v : Nat} (hv : v < 50) (hn : nu v = -1) : rv_ok B (N + 1) (upd K N 10) (gr_put tg N (.leaf (10 + v))) (upd nu v (nI N)) := by
  refine ⟨fun w hw => ?_, fun n w h1 h2 h3 h4 => ?_⟩
  · by_cases z : w = v
    · subst z; exact Or.inr ⟨N, pk_us, hB, by omega, pk_us, gr_put_eq⟩
    · rw [pk_un z]
      rcases h.1 w hw with q | ⟨n, a, b, d, e, f⟩
      · exact Or.inl q
      · exact Or.inr ⟨n, a, b, by omega, by rw [pk_un (by omega)]; exact e, by rw [gr_put_ne (by omega)]; exact f⟩
  · by_cases z : n = N
    · subst z
      rw [gr_put_eq] at h4
      simp only [Lean.RArray.leaf.injEq] at h4
      have : w = v := by omega
      subst this; exact ⟨hv, pk_us⟩
    · rw [pk_un z] at h3; rw [gr_put_ne z] at h4
      obtain ⟨q1, q2⟩ := h.2 n w h1 (by omega) h3 h4
      refine ⟨q1, ?_⟩
      by_cases y : w = v
      · subst y; rw [q2] at hn; exact absurd hn (ni_ne1 (by omega))
      · rw [pk_un y]; exact q2

variable {yf_place yf_points yf_names yf_textEnd yf_made yf_entry yf_waiting yf_values yf_bound yf_cells yf_conses yf_lams yf_steps yf_atWork yf_end yf_writtenCount : Int32} {ya_kind ya_up ya_turn ya_depth ya_value ya_below ya_length ya_parameters ya_codes ya_codeCount ya_form ya_colour ya_same ya_one ya_two ya_todo ya_numbered ya_text ya_ofFunction ya_codeEnd ya_instance ya_token ya_env ya_tag ya_cellEnv ya_boundNext ya_step ya_boundNumber ya_boundTag ya_headTag ya_tailTag ya_number ya_boundValue ya_head ya_tail ya_written : Nat → Int32}
/-- Y's points: K, L, R as the graph has them -/
def yg_ok (N : Nat) (fo sa on tw : Nat → Int32) (K : Nat → Int32) (L R rt ds : Nat → Nat) : Prop :=
  (∀ n, n < N → gr_kd (K n) ∧ (K n = 5 → sa n = nI (L n) ∧ L n ≠ n) ∧ (K n ≠ 5 → sa n = nI n) ∧ (K n = 10 → fo n = -1) ∧ (K n ≠ 5 → K n ≠ 10 → fo n = K n) ∧
    (gr_lf (K n) → on n = nI (L n) ∧ L n < N) ∧ (gr_rg (K n) → tw n = nI (R n) ∧ R n < N) ∧ (n < 74 → K n = 10 ∨ K n = 5)) ∧ fo_is N K L rt ds (lk_ct K N)
theorem y_find2 {post : Int32 → Prop} {N : Nat} {K : Nat → Int32} {L R rt ds : Nat → Nat} (hN : N ≤ 900) (hg : yg_ok N ya_form ya_same ya_one ya_two K L R rt ds) :
    ∀ d n f, n < N → ds n = d → d < f → post (nI (rt n)) → wY_find_2 post yf_place yf_points yf_names yf_textEnd yf_made yf_entry yf_waiting yf_values yf_bound yf_cells yf_conses yf_lams yf_steps yf_atWork yf_end yf_writtenCount ya_kind ya_up ya_turn ya_depth ya_value ya_below ya_length ya_parameters ya_codes ya_codeCount ya_form ya_colour ya_same ya_one ya_two ya_todo ya_numbered ya_text ya_ofFunction ya_codeEnd ya_instance ya_token ya_env ya_tag ya_cellEnv ya_boundNext ya_step ya_boundNumber ya_boundTag ya_headTag ya_tailTag ya_number ya_boundValue ya_head ya_tail ya_written f (nI n) := by
  intro d
  induction d with
  | zero =>
    intro n f hn hd hf hp
    obtain ⟨f, rfl⟩ : ∃ g, f = g + 1 := ⟨f - 1, by omega⟩
    have hk : ¬ K n = 5 := by intro z; have := ((hg.2 n hn).2.2.2.1 z).2.2; omega
    have hr := ((hg.2 n hn).2.2.1 hk).1
    rw [hr] at hp
    refine And.intro (pk_in n 900 (by omega)) ?_
    rw [nI_clamp (n := n) (by omega)]
    exact br_t ((hg.1 n hn).2.2.1 hk) hp
  | succ d ih =>
    intro n f hn hd hf hp
    obtain ⟨f, rfl⟩ : ∃ g, f = g + 1 := ⟨f - 1, by omega⟩
    have hk : K n = 5 := Classical.byContradiction (fun z => by have := ((hg.2 n hn).2.2.1 z).2; omega)
    obtain ⟨e1, e2, e3⟩ := (hg.2 n hn).2.2.2.1 hk
    obtain ⟨el, en⟩ := (hg.1 n hn).2.1 hk
    refine And.intro (pk_in n 900 (by omega)) ?_
    rw [nI_clamp (n := n) (by omega)]
    refine br_f (by rw [el, nI_eq (by omega) (by omega)]; exact en) (And.intro (pk_in n 900 (by omega)) (nm_r el ?_))
    exact ih (L n) f e1 (by omega) (by omega) (by rw [e2]; exact hp)
theorem y_find {post : Int32 → Prop} {N : Nat} {K : Nat → Int32} {L R rt ds : Nat → Nat} (hN : N ≤ 900) (hg : yg_ok N ya_form ya_same ya_one ya_two K L R rt ds) {n : Nat} (hn : n < N)
    (hp : post (nI (rt n))) : wpY_find post (yf_place, yf_points, yf_names, yf_textEnd, yf_made, yf_entry, yf_waiting, yf_values, yf_bound, yf_cells, yf_conses, yf_lams, yf_steps, yf_atWork, yf_end, yf_writtenCount, ya_kind, ya_up, ya_turn, ya_depth, ya_value, ya_below, ya_length, ya_parameters, ya_codes, ya_codeCount, ya_form, ya_colour, ya_same, ya_one, ya_two, ya_todo, ya_numbered, ya_text, ya_ofFunction, ya_codeEnd, ya_instance, ya_token, ya_env, ya_tag, ya_cellEnv, ya_boundNext, ya_step, ya_boundNumber, ya_boundTag, ya_headTag, ya_tailTag, ya_number, ya_boundValue, ya_head, ya_tail, ya_written) (nI n) := Exists.intro (ds n + 1) (y_find2 hN hg (ds n) n _ hn rfl (by omega) hp)
/-- roots that are no variables -/
def cc (K : Nat → Int32) (N : Nat) : Nat := sm (fun j => if K j = 10 ∨ K j = 5 then 0 else 1) N
theorem cc_dn {K : Nat → Int32} {N a : Nat} (ha : a < N) (hc : gr_cn (K a)) : cc (upd K a 5) N + 1 = cc K N := by
  have h := sm_one (g := fun j => if K j = 10 ∨ K j = 5 then 0 else 1) (g' := fun j => if upd K a 5 j = 10 ∨ upd K a 5 j = 5 then 0 else 1) (a := a) N ha (fun j _ hj => by simp only [pk_un hj])
  have h1 : ¬ (K a = 10 ∨ K a = 5) := by
    rintro (z | z) <;> (rw [z] at hc; rcases hc with q | q | q | q | q <;> exact absurd q (by decide))
  simp only [pk_us, if_neg h1, or_true, if_true] at h
  unfold cc; omega
theorem cc_eq {K : Nat → Int32} {N a : Nat} (hv : K a = 10) : cc (upd K a 5) N = cc K N := by
  unfold cc
  apply sm_same
  intro j _
  by_cases z : j = a
  · subst z; simp only [pk_us, hv, or_true, true_or, if_true]
  · simp only [pk_un z]
theorem cn_0 {k : Int32} (h : gr_cn k) : 0 ≤ k := by rcases h with h | h | h | h | h <;> (rw [h]; decide)
theorem cn_1 {k : Int32} (h : gr_cn k) : k ≤ 1 ↔ ¬ gr_lf k := by
  rcases h with h | h | h | h | h <;> (rw [h]; unfold gr_lf; decide)
theorem cn_v {k : Int32} (h : gr_cn k) : k ≠ 10 ∧ k ≠ 5 := by rcases h with h | h | h | h | h <;> (rw [h]; decide)
/-- the pairs that wait -/
def td_ok (N q : Nat) (td : Nat → Int32) (EL ER : Nat → Nat) : Prop := ∀ i, i < q → td (2 * i + 1) = nI (EL i) ∧ EL i < N ∧ td (2 * i) = nI (ER i) ∧ ER i < N
theorem td_up {N q : Nat} {td : Nat → Int32} {EL ER : Nat → Nat} {a b : Nat} (h : td_ok N q td EL ER) (ha : a < N) (hb : b < N) :
    td_ok N (q + 1) (upd (upd td (2 * q) (nI b)) (2 * q + 1) (nI a)) (updN EL q a) (updN ER q b) := by
  intro i hi
  by_cases z : i = q
  · subst z; rw [pk_us, pk_un (by omega), pk_us, uN_s, uN_s]; exact ⟨rfl, ha, rfl, hb⟩
  · rw [pk_un (by omega), pk_un (by omega), pk_un (by omega), pk_un (by omega), uN_n z, uN_n z]; exact h i (by omega)
theorem yg_link {N : Nat} {fo sa on tw : Nat → Int32} {K : Nat → Int32} {L R rt ds : Nat → Nat} {a b : Nat} (hg : yg_ok N fo sa on tw K L R rt ds) (ha : a < N) (hb : b < N) (hab : a ≠ b) (ra : K a ≠ 5) (rb : K b ≠ 5) :
    ∃ rt' ds', yg_ok N fo (upd sa a (nI b)) on tw (upd K a 5) (updN L a b) R rt' ds' ∧ lk_ct (upd K a 5) N = lk_ct K N + 1 := by
  have hl : lk_ct (upd K a 5) N = lk_ct K N + 1 := lk_up ra pk_us N ha (fun j _ hj => pk_un hj)
  refine ⟨fun n => if rt n = a then b else rt n, fun n => if rt n = a then ds n + 1 else ds n, ⟨fun n hn => ?_, ?_⟩, hl⟩
  · by_cases z : n = a
    · subst z
      rw [pk_us, pk_us, uN_s]
      refine ⟨Or.inr (Or.inr (Or.inr (Or.inr (Or.inr (Or.inl rfl))))), fun _ => ⟨rfl, Ne.symm hab⟩, fun h => absurd rfl h, fun h => absurd h (by decide), fun h => absurd rfl h, fun h => ?_, fun h => ?_, fun _ => Or.inr rfl⟩
      · rcases h with h | h | h <;> exact absurd h (by decide)
      · rcases h with h | h <;> exact absurd h (by decide)
    · rw [pk_un z, pk_un z, uN_n z]; exact hg.1 n hn
  · rw [hl]
    exact fo_join hg.2 ha hb hab ra rb pk_us uN_s (fun j _ hj => pk_un hj) (fun j _ hj => uN_n hj)
theorem y_join18 {post : Int32 → SY → Prop} {N : Nat} {R : Nat → Nat} {S0 : (Nat → mt_T) → Prop} (hN : N ≤ 900)
    (hP1 : ∀ sa' td' K' L' rt' ds', yg_ok N ya_form sa' ya_one ya_two K' L' R rt' ds' → (∀ r, S0 r ↔ gr_sat N K' L' R r) → post 1 (yf_place, yf_points, yf_names, yf_textEnd, yf_made, yf_entry, yf_waiting, yf_values, yf_bound, yf_cells, yf_conses, yf_lams, yf_steps, yf_atWork, yf_end, yf_writtenCount, ya_kind, ya_up, ya_turn, ya_depth, ya_value, ya_below, ya_length, ya_parameters, ya_codes, ya_codeCount, ya_form, ya_colour, sa', ya_one, ya_two, td', ya_numbered, ya_text, ya_ofFunction, ya_codeEnd, ya_instance, ya_token, ya_env, ya_tag, ya_cellEnv, ya_boundNext, ya_step, ya_boundNumber, ya_boundTag, ya_headTag, ya_tailTag, ya_number, ya_boundValue, ya_head, ya_tail, ya_written))
    (hP0 : ∀ sa' td', (∀ r, ¬ S0 r) → post 0 (yf_place, yf_points, yf_names, yf_textEnd, yf_made, yf_entry, yf_waiting, yf_values, yf_bound, yf_cells, yf_conses, yf_lams, yf_steps, yf_atWork, yf_end, yf_writtenCount, ya_kind, ya_up, ya_turn, ya_depth, ya_value, ya_below, ya_length, ya_parameters, ya_codes, ya_codeCount, ya_form, ya_colour, sa', ya_one, ya_two, td', ya_numbered, ya_text, ya_ofFunction, ya_codeEnd, ya_instance, ya_token, ya_env, ya_tag, ya_cellEnv, ya_boundNext, ya_step, ya_boundNumber, ya_boundTag, ya_headTag, ya_tailTag, ya_number, ya_boundValue, ya_head, ya_tail, ya_written)) :
    ∀ μ f q sa td K L rt ds EL ER, yg_ok N ya_form sa ya_one ya_two K L R rt ds → q + cc K N ≤ 749 → td_ok N q td EL ER → (∀ r, S0 r ↔ gr_sat N K L R r ∧ eq_all q EL ER r) →
      q + 3 * (N - lk_ct K N) ≤ μ → μ < f → wY_join_18 post yf_place yf_points yf_names yf_textEnd yf_made yf_entry yf_waiting yf_values yf_bound yf_cells yf_conses yf_lams yf_steps yf_atWork yf_end yf_writtenCount f (nI (2 * q)) ya_kind ya_up ya_turn ya_depth ya_value ya_below ya_length ya_parameters ya_codes ya_codeCount ya_form ya_colour sa ya_one ya_two td ya_numbered ya_text ya_ofFunction ya_codeEnd ya_instance ya_token ya_env ya_tag ya_cellEnv ya_boundNext ya_step ya_boundNumber ya_boundTag ya_headTag ya_tailTag ya_number ya_boundValue ya_head ya_tail ya_written := by
  intro μ
  induction μ with
  | zero =>
    intro f q sa td K L rt ds EL ER hg hE hq hS hμ hf
    obtain ⟨f, rfl⟩ : ∃ g, f = g + 1 := ⟨f - 1, by omega⟩
    have e0 : q = 0 := by omega
    subst e0
    exact br_t (by decide) (hP1 sa td K L rt ds hg (fun r => (hS r).trans ⟨fun h => h.1, fun h => ⟨h, fun i hi => by omega⟩⟩))
  | succ μ ih =>
    intro f q sa td K L rt ds EL ER hg hE hq hS hμ hf
    obtain ⟨f, rfl⟩ : ∃ g, f = g + 1 := ⟨f - 1, by omega⟩
    by_cases e0 : q = 0
    · subst e0
      exact br_t (by decide) (hP1 sa td K L rt ds hg (fun r => (hS r).trans ⟨fun h => h.1, fun h => ⟨h, fun i hi => by omega⟩⟩))
    obtain ⟨q, rfl⟩ : ∃ g, q = g + 1 := ⟨q - 1, by omega⟩
    obtain ⟨q1, q2, q3, q4⟩ := hq q (by omega)
    have hl0 := lk_le K N
    have hlt : lk_ct K N < N := lk_lt (hg.2 (EL q) q2).2.1 N (hg.2 (EL q) q2).1
    refine br_f (nI_nle (by omega) (by omega)) (nm_r (e' := nI (2 * q + 1)) (pk_m1 (2 * q + 1)) (And.intro (pk_in (2 * q + 1) 1500 (by omega)) ?_))
    rw [nI_clamp (n := 2 * q + 1) (by omega), q1]
    refine y_find hN hg q2 (nm_r (e' := nI (2 * q)) (pk_m1 (2 * q)) (And.intro (pk_in (2 * q) 1500 (by omega)) ?_))
    rw [nI_clamp (n := 2 * q) (by omega), q3]
    refine y_find hN hg q4 ?_
    obtain ⟨a1, a2, _, _, _⟩ := hg.2 (EL q) q2
    obtain ⟨b1, b2, _, _, _⟩ := hg.2 (ER q) q4
    have hq' : td_ok N q td EL ER := fun i hi => hq i (by omega)
    have key : ∀ r, gr_sat N K L R r ∧ eq_all (q + 1) EL ER r ↔ eq_all q EL ER r ∧ r (rt (EL q)) = r (rt (ER q)) ∧ gr_sat N K L R r := by
      intro r
      rw [eq_lowa]
      refine ⟨fun h => ⟨h.2.1, ?_, h.1⟩, fun h => ⟨h.2.2, h.1, ?_⟩⟩
      · rw [← fo_eq hg.2 h.1 _ (EL q) q2 rfl, ← fo_eq hg.2 h.1 _ (ER q) q4 rfl]; exact h.2.2
      · rw [fo_eq hg.2 h.2.2 _ (EL q) q2 rfl, fo_eq hg.2 h.2.2 _ (ER q) q4 rfl]; exact h.2.1
    refine pk_eq (rt (EL q)) (rt (ER q)) (fun heq => ?_) (fun hne => ?_)
    · refine ih f q sa td K L rt ds EL ER hg (by omega) hq' (fun r => (hS r).trans ?_) (by omega) (by omega)
      rw [key]
      exact ⟨fun h => ⟨h.2.2, h.1⟩, fun h => ⟨h.2, by rw [heq], h.1⟩⟩
    generalize rt (EL q) = x at *
    generalize rt (ER q) = y at *
    have cx : (nI x).toNatClampNeg = x := nI_clamp (by omega)
    have cy : (nI y).toNatClampNeg = y := nI_clamp (by omega)
    obtain ⟨kdx, _, _, kvx, kcx, klx, krx, _⟩ := hg.1 x a1
    obtain ⟨kdy, _, _, kvy, kcy, kly, kry, _⟩ := hg.1 y b1
    refine And.intro (pk_in x 900 (by omega)) ?_
    rw [cx, cy]
    by_cases vx : K x = 10
    · obtain ⟨rt', ds', hg', hl'⟩ := yg_link hg a1 b1 hne a2 b2
      refine br_f (by rw [kvx vx]; decide) (And.intro (pk_in x 900 (by omega)) (nm_r (e' := upd sa x (nI y)) (by rw [nr_s (by omega)]) ?_))
      refine ih f q _ td _ _ rt' ds' EL ER hg' (by rw [cc_eq vx]; omega) hq' (fun r => (hS r).trans ?_) (by omega) (by omega)
      rw [key, gr_join_v (K := K) (L := L) (R := R) (R' := R) a1 pk_us uN_s (fun j _ hj => pk_un hj) (fun j _ hj => uN_n hj) (fun _ _ _ => rfl) vx]
      exact ⟨fun h => ⟨h.2, h.1⟩, fun h => ⟨h.2, h.1⟩⟩
    have cnx := kd_cn kdx a2 vx
    have fx := kcx a2 vx
    obtain ⟨rt', ds', hg', hl'⟩ := yg_link hg b1 a1 (Ne.symm hne) b2 a2
    refine br_t (by rw [fx]; exact cn_0 cnx) (And.intro (pk_in y 900 (by omega)) (nm_r (e' := upd sa y (nI x)) (by rw [nr_s (by omega)]) (And.intro (pk_in y 900 (by omega)) ?_)))
    by_cases vy : K y = 10
    · refine br_f (by rw [kvy vy]; decide) ?_
      refine ih f q _ td _ _ rt' ds' EL ER hg' (by rw [cc_eq vy]; omega) hq' (fun r => (hS r).trans ?_) (by omega) (by omega)
      rw [key, gr_join_v (K := K) (L := L) (R := R) (R' := R) b1 pk_us uN_s (fun j _ hj => pk_un hj) (fun j _ hj => uN_n hj) (fun _ _ _ => rfl) vy]
      exact ⟨fun h => ⟨⟨h.2.1.symm, h.2.2⟩, h.1⟩, fun h => ⟨h.2, h.1.1.symm, h.1.2⟩⟩
    have cny := kd_cn kdy b2 vy
    have fy := kcy b2 vy
    refine br_t (by rw [fy]; exact cn_0 cny) (And.intro (pk_in x 900 (by omega)) (And.intro (pk_in y 900 (by omega)) ?_))
    rw [fx, fy]
    refine br_c (fun hk => And.intro (pk_in x 900 (by omega)) ?_) (fun hk => hP0 _ td (fun r z => gr_clash a1 b1 cnx cny hk ((hS r).mp z).1 ((key r).mp ((hS r).mp z)).2.1))
    have hcd := cc_dn b1 cny
    have tail : ∀ q' td' EL' ER', q' ≤ q + 2 → td_ok N q' td' EL' ER' →
        (∀ r, eq_all q' EL' ER' r ↔ eq_all q EL ER r ∧ (gr_lf (K y) → r (L y) = r (L x)) ∧ (gr_rg (K y) → r (R y) = r (R x))) →
        wY_join_18 post yf_place yf_points yf_names yf_textEnd yf_made yf_entry yf_waiting yf_values yf_bound yf_cells yf_conses yf_lams yf_steps yf_atWork yf_end yf_writtenCount f (nI (2 * q')) ya_kind ya_up ya_turn ya_depth ya_value ya_below ya_length ya_parameters ya_codes ya_codeCount ya_form ya_colour (upd sa y (nI x)) ya_one ya_two td' ya_numbered ya_text ya_ofFunction ya_codeEnd ya_instance ya_token ya_env ya_tag ya_cellEnv ya_boundNext ya_step ya_boundNumber ya_boundTag ya_headTag ya_tailTag ya_number ya_boundValue ya_head ya_tail ya_written := by
      intro q' td' EL' ER' hq2 htd hr
      refine ih f q' _ td' _ _ rt' ds' EL' ER' hg' (by omega) htd (fun r => (hS r).trans ?_) (by omega) (by omega)
      have hj := gr_join_c (r := r) (K := K) (L := L) (R := R) (R' := R) b1 a1 (Ne.symm hne) pk_us uN_s (fun j _ hj => pk_un hj) (fun j _ hj => uN_n hj) (fun _ _ _ => rfl) cny hk.symm
      rw [key, hr r]
      constructor
      · intro h
        have h' := hj.mpr ⟨h.2.1.symm, h.2.2⟩
        exact ⟨h'.1, h.1, h'.2⟩
      · intro h
        have h' := hj.mp ⟨h.1, h.2.2⟩
        exact ⟨h.2.1, h'.1.symm, h'.2⟩
    have hrk : gr_rg (K y) → gr_lf (K y) := fun z => Or.inr z
    by_cases hl : gr_lf (K x)
    · obtain ⟨l1, l2⟩ := klx hl
      obtain ⟨l1', l2'⟩ := kly (hk ▸ hl)
      refine br_f (fun z => (cn_1 cnx).mp z hl) (nm_r (nI_1 (2 * q)) (And.intro (pk_in x 900 (by omega)) (And.intro (pk_in (2 * q) 1500 (by omega)) (nm_r (e' := upd td (2 * q) (nI (L x))) (by rw [l1, nr_s0 (by omega)]) (nm_r (e' := nI (2 * (q + 1))) (nI_1 (2 * q + 1)) (And.intro (pk_in y 900 (by omega)) (And.intro (pk_in (2 * q + 1) 1500 (by omega)) (nm_r (e' := upd (upd td (2 * q) (nI (L x))) (2 * q + 1) (nI (L y))) (by rw [nI_clamp (n := 2 * q + 1) (by omega), l1', nr_s0 (by omega)]) ?_))))))))
      have ht1 := td_up hq' l2' l2
      by_cases hr : gr_rg (K x)
      · obtain ⟨r1, r2⟩ := krx hr
        obtain ⟨r1', r2'⟩ := kry (hk ▸ hr)
        have go : wY_join_192 post (wY_join_18 post yf_place yf_points yf_names yf_textEnd yf_made yf_entry yf_waiting yf_values yf_bound yf_cells yf_conses yf_lams yf_steps yf_atWork yf_end yf_writtenCount f) (nI (2 * (q + 1))) (nI x) (nI y) yf_place yf_points yf_names yf_textEnd yf_made yf_entry yf_waiting yf_values yf_bound yf_cells yf_conses yf_lams yf_steps yf_atWork yf_end yf_writtenCount ya_kind ya_up ya_turn ya_depth ya_value ya_below ya_length ya_parameters ya_codes ya_codeCount ya_form ya_colour (upd sa y (nI x)) ya_one ya_two (upd (upd td (2 * q) (nI (L x))) (2 * q + 1) (nI (L y))) ya_numbered ya_text ya_ofFunction ya_codeEnd ya_instance ya_token ya_env ya_tag ya_cellEnv ya_boundNext ya_step ya_boundNumber ya_boundTag ya_headTag ya_tailTag ya_number ya_boundValue ya_head ya_tail ya_written := by
          refine nm_r (nI_1 (2 * (q + 1))) (And.intro (pk_in x 900 (by omega)) (And.intro (pk_in (2 * (q + 1)) 1500 (by omega)) (nm_r (e' := upd (upd (upd td (2 * q) (nI (L x))) (2 * q + 1) (nI (L y))) (2 * (q + 1)) (nI (R x))) (by rw [nI_clamp (n := 2 * (q + 1)) (by omega), cx, r1, nr_s0 (by omega)]) (nm_r (e' := nI (2 * (q + 2))) (nI_1 (2 * (q + 1) + 1)) (And.intro (pk_in y 900 (by omega)) (And.intro (pk_in (2 * (q + 1) + 1) 1500 (by omega)) (nm_r (e' := upd (upd (upd (upd td (2 * q) (nI (L x))) (2 * q + 1) (nI (L y))) (2 * (q + 1)) (nI (R x))) (2 * (q + 1) + 1) (nI (R y))) (by rw [nI_clamp (n := 2 * (q + 1) + 1) (by omega), cy, r1', nr_s0 (by omega)]) ?_)))))))
          refine tail (q + 2) _ _ _ (by omega) (td_up ht1 r2' r2) (fun r => ?_)
          rw [eq_upa, eq_upa]
          exact ⟨fun ⟨⟨p, s⟩, t⟩ => ⟨p, fun _ => s, fun _ => t⟩, fun ⟨p, s, t⟩ => ⟨⟨p, s (hk ▸ hl)⟩, t (hk ▸ hr)⟩⟩
        refine And.intro (pk_in x 900 (by omega)) ?_
        rw [cx, fx]
        exact br_c (fun _ => go) (fun h2 => And.intro (pk_in x 900 (by omega)) (br_t (hr.elim (fun z => absurd z h2) id) go))
      · have go := tail (q + 1) _ _ _ (by omega) ht1 (fun r => by
          rw [eq_upa]
          exact ⟨fun ⟨p, s⟩ => ⟨p, fun _ => s, fun z => absurd (hk ▸ z) hr⟩, fun ⟨p, s, _⟩ => ⟨p, s (hk ▸ hl)⟩⟩)
        refine And.intro (pk_in x 900 (by omega)) ?_
        rw [cx, fx]
        exact br_f (fun z => hr (Or.inl z)) (And.intro (pk_in x 900 (by omega)) (br_f (fun z => hr (Or.inr z)) go))
    · have go := tail q td EL ER (by omega) hq' (fun r => ⟨fun p => ⟨p, fun z => absurd (hk ▸ z) hl, fun z => absurd (hk ▸ hrk z) hl⟩, fun p => p.1⟩)
      refine br_t ((cn_1 cnx).mpr hl) (And.intro (pk_in x 900 (by omega)) ?_)
      rw [cx, fx]
      exact br_f (fun z => hl (Or.inr (Or.inl z))) (And.intro (pk_in x 900 (by omega)) (br_f (fun z => hl (Or.inr (Or.inr z))) go))
theorem y_join {post : Int32 → SY → Prop} {N a b : Nat} {K : Nat → Int32} {L R rt ds : Nat → Nat} {S0 : (Nat → mt_T) → Prop} (hN : N ≤ 800) (hc : cc K N ≤ 740) (ha : a < N) (hb : b < N)
    (hg : yg_ok N ya_form ya_same ya_one ya_two K L R rt ds) (hS : ∀ r, S0 r ↔ gr_sat N K L R r ∧ r a = r b)
    (hP1 : ∀ sa' td' K' L' rt' ds', yg_ok N ya_form sa' ya_one ya_two K' L' R rt' ds' → (∀ r, S0 r ↔ gr_sat N K' L' R r) → post 1 (yf_place, yf_points, yf_names, yf_textEnd, yf_made, yf_entry, yf_waiting, yf_values, yf_bound, yf_cells, yf_conses, yf_lams, yf_steps, yf_atWork, yf_end, yf_writtenCount, ya_kind, ya_up, ya_turn, ya_depth, ya_value, ya_below, ya_length, ya_parameters, ya_codes, ya_codeCount, ya_form, ya_colour, sa', ya_one, ya_two, td', ya_numbered, ya_text, ya_ofFunction, ya_codeEnd, ya_instance, ya_token, ya_env, ya_tag, ya_cellEnv, ya_boundNext, ya_step, ya_boundNumber, ya_boundTag, ya_headTag, ya_tailTag, ya_number, ya_boundValue, ya_head, ya_tail, ya_written))
    (hP0 : ∀ sa' td', (∀ r, ¬ S0 r) → post 0 (yf_place, yf_points, yf_names, yf_textEnd, yf_made, yf_entry, yf_waiting, yf_values, yf_bound, yf_cells, yf_conses, yf_lams, yf_steps, yf_atWork, yf_end, yf_writtenCount, ya_kind, ya_up, ya_turn, ya_depth, ya_value, ya_below, ya_length, ya_parameters, ya_codes, ya_codeCount, ya_form, ya_colour, sa', ya_one, ya_two, td', ya_numbered, ya_text, ya_ofFunction, ya_codeEnd, ya_instance, ya_token, ya_env, ya_tag, ya_cellEnv, ya_boundNext, ya_step, ya_boundNumber, ya_boundTag, ya_headTag, ya_tailTag, ya_number, ya_boundValue, ya_head, ya_tail, ya_written)) : wpY_join post (yf_place, yf_points, yf_names, yf_textEnd, yf_made, yf_entry, yf_waiting, yf_values, yf_bound, yf_cells, yf_conses, yf_lams, yf_steps, yf_atWork, yf_end, yf_writtenCount, ya_kind, ya_up, ya_turn, ya_depth, ya_value, ya_below, ya_length, ya_parameters, ya_codes, ya_codeCount, ya_form, ya_colour, ya_same, ya_one, ya_two, ya_todo, ya_numbered, ya_text, ya_ofFunction, ya_codeEnd, ya_instance, ya_token, ya_env, ya_tag, ya_cellEnv, ya_boundNext, ya_step, ya_boundNumber, ya_boundTag, ya_headTag, ya_tailTag, ya_number, ya_boundValue, ya_head, ya_tail, ya_written) (nI a) (nI b) := by
  refine nm_r (e' := upd ya_todo 0 (nI a)) (by rw [nr_s (by omega)]) (nm_r (e' := upd (upd ya_todo 0 (nI a)) 1 (nI b)) (by rw [nr_s (by omega)]) (Exists.intro 5000 ?_))
  refine y_join18 (by omega) hP1 hP0 4999 5000 1 ya_same _ K L rt ds (fun _ => b) (fun _ => a) hg (by omega) ?_ (fun r => (hS r).trans ?_) (by omega) (by omega)
  · intro i hi
    have : i = 0 := by omega
    subst this
    refine ⟨pk_us, hb, ?_, ha⟩
    show upd (upd ya_todo 0 (nI a)) 1 (nI b) 0 = nI a
    rw [pk_un (by omega), pk_us]
  · refine and_congr_right (fun _ => ⟨fun h i _ => h.symm, fun h => (h 0 (by omega)).symm⟩)

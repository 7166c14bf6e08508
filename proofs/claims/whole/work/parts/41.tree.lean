theorem jp_mono {n : Nat} {oc sp : Nat → Nat} (h : bw_is n oc sp) {t : Nat} (ht : t < n) : ∀ j, j ≤ oc t → ∀ i, i < j → jp sp t i < jp sp t j := by
  intro j
  induction j with
  | zero => intro _ i hi; omega
  | succ j ih =>
    intro hj i hi
    have h1 := (h.2.2 _ (bw_in h ht (show j < oc t by omega)).2.2).1
    have e : jp sp t (j + 1) = jp sp t j + sp (jp sp t j) := rfl
    by_cases z : i = j
    · subst z; omega
    · have := ih (by omega) i (by omega); omega
/-- which operand a place below t is in -/
theorem jp_find {n : Nat} {oc sp : Nat → Nat} (h : bw_is n oc sp) {t u : Nat} (ht : t < n) (h1 : t < u) (h2 : u < t + sp t) : ∃ j, j < oc t ∧ jp sp t j ≤ u ∧ u < jp sp t (j + 1) := by
  have key : ∀ d, d ≤ oc t → u < jp sp t d → ∃ j, j < d ∧ jp sp t j ≤ u ∧ u < jp sp t (j + 1) := by
    intro d
    induction d with
    | zero => intro _ hu; have : jp sp t 0 = t + 1 := rfl
              omega
    | succ d ih =>
      intro hd hu
      rcases Nat.lt_or_ge u (jp sp t d) with z | z
      · obtain ⟨j, a, b, c⟩ := ih (by omega) z
        exact ⟨j, by omega, b, c⟩
      · exact ⟨d, by omega, z, hu⟩
  have e := (h.2.2 t ht).2.2.1
  exact key (oc t) (Nat.le_refl _) (by omega)
theorem bw_lam {n : Nat} {oc sp : Nat → Nat} (h : bw_is n oc sp) : ∀ m t, t < n → sp t ≤ m → ∀ u, t ≤ u → u < t + sp t → u + sp u ≤ t + sp t := by
  intro m
  induction m with
  | zero => intro t ht hs u h1 h2; omega
  | succ m ih =>
    intro t ht hs u h1 h2
    by_cases z : u = t
    · subst z; exact Nat.le_refl _
    · obtain ⟨j, a, b, c⟩ := jp_find h ht (by omega) h2
      obtain ⟨q1, q2, q3⟩ := bw_in h ht a
      have c' : u < jp sp t j + sp (jp sp t j) := c
      have := ih (jp sp t j) q3 (by omega) u b c'
      omega
theorem bw_par {n : Nat} {oc sp : Nat → Nat} (h : bw_is n oc sp) : ∀ m t, t < n → sp t ≤ m → ∀ u, t < u → u < t + sp t → ∃ v j, t ≤ v ∧ v < u ∧ j < oc v ∧ u = jp sp v j := by
  intro m
  induction m with
  | zero => intro t ht hs u h1 h2; omega
  | succ m ih =>
    intro t ht hs u h1 h2
    obtain ⟨j, a, b, c⟩ := jp_find h ht h1 h2
    obtain ⟨q1, q2, q3⟩ := bw_in h ht a
    by_cases z : u = jp sp t j
    · exact ⟨t, j, Nat.le_refl _, h1, a, z⟩
    · have c' : u < jp sp t j + sp (jp sp t j) := c
      obtain ⟨v, i, r1, r2, r3, r4⟩ := ih (jp sp t j) q3 (by omega) u (by omega) c'
      exact ⟨v, i, by omega, r2, r3, r4⟩
theorem bw_parent {n : Nat} {oc sp : Nat → Nat} (h : bw_is n oc sp) {u : Nat} (h0 : 0 < u) (hu : u < n) : ∃ v j, v < u ∧ j < oc v ∧ u = jp sp v j := by
  have e := h.2.1
  obtain ⟨v, j, _, a, b, c⟩ := bw_par h (sp 0) 0 h.1 (Nat.le_refl _) u h0 (by omega)
  exact ⟨v, j, a, b, c⟩
theorem bw_uniq {n : Nat} {oc sp : Nat → Nat} (h : bw_is n oc sp) {u v i j : Nat} (hu : u < n) (hv : v < n) (hi : i < oc u) (hj : j < oc v) (e : jp sp u i = jp sp v j) : u = v ∧ i = j := by
  have main : ∀ u v i j, u < n → v < n → i < oc u → j < oc v → jp sp u i = jp sp v j → ¬ u < v := by
    intro u v i j hu hv hi hj e hlt
    obtain ⟨a1, a2, a3⟩ := bw_in h hu hi
    obtain ⟨b1, b2, b3⟩ := bw_in h hv hj
    have b4 := (h.2.2 _ b3).1
    obtain ⟨k, k1, k2, k3⟩ := jp_find h hu hlt (by omega)
    obtain ⟨c1, c2, c3⟩ := bw_in h hu k1
    have k3' : v < jp sp u k + sp (jp sp u k) := k3
    have hl := bw_lam h _ (jp sp u k) c3 (Nat.le_refl _) v k2 k3'
    have hki : k < i := by
      rcases Nat.lt_or_ge k i with z | z
      · exact z
      · exfalso
        by_cases y : k = i
        · subst y; omega
        · have := jp_mono h hu k (by omega) i (by omega)
          omega
    have hle : jp sp u (k + 1) ≤ jp sp u i := by
      by_cases y : k + 1 = i
      · rw [y]; exact Nat.le_refl _
      · exact Nat.le_of_lt (jp_mono h hu i (by omega) (k + 1) (by omega))
    have e2 : jp sp u (k + 1) = jp sp u k + sp (jp sp u k) := rfl
    omega
  have h1 := main u v i j hu hv hi hj e
  have h2 := main v u j i hv hu hj hi e.symm
  have huv : u = v := by omega
  subst huv
  refine ⟨rfl, ?_⟩
  rcases Nat.lt_trichotomy i j with z | z | z
  · have := jp_mono h hu j (by omega) i z; omega
  · exact z
  · have := jp_mono h hu i (by omega) j z; omega
/-- tokens that are awaited -/
def aw (oc : Nat → Nat) : Nat → Nat
  | 0 => 1
  | t + 1 => aw oc t + oc t - 1
theorem aw_s {oc : Nat → Nat} {t : Nat} (h : aw oc t ≠ 0) : aw oc (t + 1) + 1 = aw oc t + oc t := by show aw oc t + oc t - 1 + 1 = _; omega
theorem aw_le {oc : Nat → Nat} : ∀ t, (∀ s, s < t → oc s ≤ 3) → aw oc t ≤ 1 + 3 * t := by
  intro t
  induction t with
  | zero => intro _; exact Nat.le_refl _
  | succ t ih =>
    intro h
    have h1 := ih (fun s hs => h s (by omega))
    have h2 := h t (by omega)
    show aw oc t + oc t - 1 ≤ _
    omega
/-- a binder's variables, and the binder, of every place: from the outside in -/
theorem tr_ex {n : Nat} {kN oc sp : Nat → Nat} (h : bw_is n oc sp) (P : Nat) : ∀ m, m ≤ n → ∃ bd bi : Nat → Nat, bd 0 = P ∧ bi 0 = 0 ∧ ∀ t, t < m → ∀ j, j < oc t → jp sp t j < m → bd (jp sp t j) = bd t + bn (kN t) j ∧ bi (jp sp t j) = (if bn (kN t) j = 0 then bi t else t + 1) := by
  intro m
  induction m with
  | zero => intro _; exact ⟨fun _ => P, fun _ => 0, rfl, rfl, fun t ht => by omega⟩
  | succ m ih =>
    intro hm
    obtain ⟨bd, bi, h1, h2, h3⟩ := ih (by omega)
    by_cases m0 : m = 0
    · subst m0
      refine ⟨bd, bi, h1, h2, fun t ht j hj hlt => ?_⟩
      have := jp_gt sp t j; omega
    · obtain ⟨v, i, a, b, c⟩ := bw_parent h (show 0 < m by omega) (by omega)
      refine ⟨updN bd m (bd v + bn (kN v) i), updN bi m (if bn (kN v) i = 0 then bi v else v + 1), by rw [uN_n (by omega)]; exact h1, by rw [uN_n (by omega)]; exact h2, fun t ht j hj hlt => ?_⟩
      have hg := jp_gt sp t j
      have htm : t ≠ m := by omega
      rw [uN_n htm, uN_n htm]
      by_cases z : jp sp t j = m
      · obtain ⟨q1, q2⟩ := bw_uniq h (by omega) (by omega) hj b (z.trans c)
        subst q1; subst q2
        rw [z, uN_s, uN_s]; exact ⟨rfl, rfl⟩
      · rw [uN_n z, uN_n z]; exact h3 t (by omega) j hj (by omega)

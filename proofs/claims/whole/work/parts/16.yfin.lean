/-- the walk through the roots: cN colours, S the stack -/
def fi_ct (cN : Nat → Nat) (N : Nat) : Nat := sm (fun n => if cN n = 1 ∨ cN n = 2 then 1 else 0) N
def fi_ok (N : Nat) (K : Nat → Int32) (L R : Nat → Nat) (cN S : Nat → Nat) (top : Nat) : Prop :=
  (∀ n, n < N → cN n ≤ 3 ∧ (K n = 5 → cN n = 0)) ∧
  (∀ i, i < top → S i < N ∧ K (S i) ≠ 5 ∧ (∀ j, j < i → S j ≠ S i) ∧
    (i + 1 < top → (cN (S i) = 1 ∧ gr_lf (K (S i)) ∧ S (i + 1) = L (S i)) ∨ (cN (S i) = 2 ∧ gr_rg (K (S i)) ∧ S (i + 1) = R (S i) ∧ cN (L (S i)) = 3)) ∧
    (i + 1 = top → cN (S i) ≤ 2 ∧ (1 ≤ cN (S i) → gr_lf (K (S i)) → cN (L (S i)) = 3) ∧ (cN (S i) = 2 → gr_rg (K (S i)) ∧ cN (R (S i)) = 3))) ∧
  (∀ n, n < N → cN n = 1 ∨ cN n = 2 → ∃ i, i < top ∧ S i = n) ∧
  ((top = fi_ct cN N ∧ ∀ i, i + 1 = top → cN (S i) ≠ 0) ∨ (top = fi_ct cN N + 1 ∧ ∀ i, i + 1 = top → cN (S i) = 0))
theorem fi_le (cN : Nat → Nat) (N : Nat) : fi_ct cN N ≤ N := by
  have := sm_le (g := fun n => if cN n = 1 ∨ cN n = 2 then 1 else 0) (b := 1) N (fun j _ => by split <;> omega)
  unfold fi_ct; omega
def fi_w (cN : Nat → Nat) (N : Nat) : Nat := sm (fun n => 3 - cN n) N
theorem fi_w_le (cN : Nat → Nat) (N : Nat) : fi_w cN N ≤ N * 3 := sm_le N (fun j _ => by omega)
theorem fi_w_dn {cN : Nat → Nat} {N x v : Nat} (hx : x < N) (h : cN x < v) (h3 : v ≤ 3) : fi_w (updN cN x v) N < fi_w cN N := by
  have h1 := sm_one (g := fun n => 3 - cN n) (g' := fun n => 3 - updN cN x v n) (a := x) N hx (fun j _ hj => by simp only [uN_n hj])
  simp only [uN_s] at h1
  unfold fi_w; omega
theorem fi_ct_01 {cN : Nat → Nat} {N x : Nat} (hx : x < N) (h : cN x = 0) : fi_ct (updN cN x 1) N = fi_ct cN N + 1 := by
  have h1 := sm_one (g := fun n => if cN n = 1 ∨ cN n = 2 then 1 else 0) (g' := fun n => if updN cN x 1 n = 1 ∨ updN cN x 1 n = 2 then 1 else 0) (a := x) N hx (fun j _ hj => by simp only [uN_n hj])
  have e1 : ¬ (cN x = 1 ∨ cN x = 2) := by omega
  simp only [uN_s, true_or, if_true, if_neg e1] at h1
  unfold fi_ct; omega
theorem fi_ct_12 {cN : Nat → Nat} {N x : Nat} (hx : x < N) (h : cN x = 1) : fi_ct (updN cN x 2) N = fi_ct cN N := by
  have h1 := sm_one (g := fun n => if cN n = 1 ∨ cN n = 2 then 1 else 0) (g' := fun n => if updN cN x 2 n = 1 ∨ updN cN x 2 n = 2 then 1 else 0) (a := x) N hx (fun j _ hj => by simp only [uN_n hj])
  have e1 : (cN x = 1 ∨ cN x = 2) := by omega
  simp only [uN_s, or_true, if_true, if_pos e1] at h1
  unfold fi_ct; omega
theorem fi_ct_3 {cN : Nat → Nat} {N x : Nat} (hx : x < N) (h : cN x = 1 ∨ cN x = 2) : fi_ct (updN cN x 3) N + 1 = fi_ct cN N := by
  have h1 := sm_one (g := fun n => if cN n = 1 ∨ cN n = 2 then 1 else 0) (g' := fun n => if updN cN x 3 n = 1 ∨ updN cN x 3 n = 2 then 1 else 0) (a := x) N hx (fun j _ hj => by simp only [uN_n hj])
  have e1 : ¬ ((3 : Nat) = 1 ∨ (3 : Nat) = 2) := by omega
  simp only [uN_s, if_pos h, if_neg e1] at h1
  unfold fi_ct; omega
/-- the top is done -/
theorem fi_done {N : Nat} {K : Nat → Int32} {L R cN S : Nat → Nat} {t : Nat} (h : fi_ok N K L R cN S (t + 1)) (hc : cN (S t) = 1 ∧ ¬ gr_rg (K (S t)) ∨ cN (S t) = 2) : fi_ok N K L R (updN cN (S t) 3) S t := by
  obtain ⟨h1, h2, h3, h4⟩ := h
  obtain ⟨x1, x2, x3, _, x5⟩ := h2 t (by omega)
  have hne : ∀ i, i < t → S i ≠ S t := fun i hi => x3 i hi
  have keep3 : ∀ n, cN n = 3 → updN cN (S t) 3 n = 3 := by
    intro n hn
    by_cases z : n = S t
    · subst z; exact uN_s
    · rw [uN_n z]; exact hn
  refine ⟨fun n hn => ?_, fun i hi => ?_, fun n hn hcn => ?_, ?_⟩
  · by_cases z : n = S t
    · subst z; rw [uN_s]; exact ⟨by omega, fun q => absurd q x2⟩
    · rw [uN_n z]; exact h1 n hn
  · obtain ⟨y1, y2, y3, y4, y5⟩ := h2 i (by omega)
    rw [uN_n (hne i hi)]
    refine ⟨y1, y2, y3, fun hlt => ?_, fun he => ?_⟩
    · rcases y4 (by omega) with ⟨a, b, c⟩ | ⟨a, b, c, d⟩
      · exact Or.inl ⟨a, b, c⟩
      · exact Or.inr ⟨a, b, c, keep3 _ d⟩
    · rcases y4 (by omega) with ⟨a, b, c⟩ | ⟨a, b, c, d⟩
      · refine ⟨by omega, fun _ _ => ?_, fun q => by omega⟩
        rw [← c, he]; exact uN_s
      · refine ⟨by omega, fun _ _ => keep3 _ d, fun _ => ⟨b, ?_⟩⟩
        rw [← c, he]; exact uN_s
  · have z : n ≠ S t := by intro z; subst z; rw [uN_s] at hcn; omega
    rw [uN_n z] at hcn
    obtain ⟨i, hi, e⟩ := h3 n hn hcn
    refine ⟨i, ?_, e⟩
    by_cases q : i = t
    · subst q; exact absurd e.symm z
    · omega
  · have hcount := fi_ct_3 x1 (cN := cN) (by omega)
    left
    have hnz : cN (S t) ≠ 0 := by omega
    rcases h4 with ⟨a, _⟩ | ⟨_, b⟩
    · refine ⟨by omega, fun i hi => ?_⟩
      rw [uN_n (hne i (by omega))]
      rcases (h2 i (by omega)).2.2.2.1 (by omega) with ⟨q, _⟩ | ⟨q, _⟩ <;> omega
    · exact absurd (b t rfl) hnz
/-- the top's colour goes up by one; nothing is pushed -/
theorem fi_stay {N : Nat} {K : Nat → Int32} {L R cN S : Nat → Nat} {t v : Nat} (h : fi_ok N K L R cN S (t + 1)) (hv : cN (S t) = 0 ∧ v = 1 ∧ (gr_lf (K (S t)) → cN (L (S t)) = 3) ∨ cN (S t) = 1 ∧ v = 2 ∧ gr_rg (K (S t)) ∧ cN (R (S t)) = 3) :
    fi_ok N K L R (updN cN (S t) v) S (t + 1) := by
  obtain ⟨h1, h2, h3, h4⟩ := h
  obtain ⟨x1, x2, x3, _, x5⟩ := h2 t (by omega)
  have hne : ∀ i, i < t → S i ≠ S t := fun i hi => x3 i hi
  have keep3 : ∀ n, cN n = 3 → updN cN (S t) v n = 3 := by
    intro n hn
    rw [uN_n (by intro z; subst z; omega)]; exact hn
  have hv3 : v ≤ 3 := by omega
  refine ⟨fun n hn => ?_, fun i hi => ?_, fun n hn hcn => ?_, ?_⟩
  · by_cases z : n = S t
    · subst z; rw [uN_s]; exact ⟨hv3, fun q => absurd q x2⟩
    · rw [uN_n z]; exact h1 n hn
  · obtain ⟨y1, y2, y3, y4, y5⟩ := h2 i hi
    by_cases q : i = t
    · subst q
      rw [uN_s]
      refine ⟨y1, y2, y3, fun hlt => by omega, fun _ => ?_⟩
      rcases hv with ⟨a, b, c⟩ | ⟨a, b, c, d⟩
      · exact ⟨by omega, fun _ hl => keep3 _ (c hl), fun z => by omega⟩
      · exact ⟨by omega, fun _ hl => keep3 _ ((y5 rfl).2.1 (by omega) hl), fun _ => ⟨c, keep3 _ d⟩⟩
    · rw [uN_n (hne i (by omega))]
      refine ⟨y1, y2, y3, fun hlt => ?_, fun he => by omega⟩
      rcases y4 (by omega) with ⟨a, b, c⟩ | ⟨a, b, c, d⟩
      · exact Or.inl ⟨a, b, c⟩
      · exact Or.inr ⟨a, b, c, keep3 _ d⟩
  · by_cases z : n = S t
    · exact ⟨t, by omega, z.symm⟩
    · rw [uN_n z] at hcn
      exact h3 n hn hcn
  · left
    refine ⟨?_, fun i hi => by have : i = t := by omega
                               subst this; rw [uN_s]; omega⟩
    rcases hv with ⟨a, b, _⟩ | ⟨a, b, _⟩
    · subst b
      rw [fi_ct_01 x1 a]
      rcases h4 with ⟨_, q⟩ | ⟨q, _⟩
      · exact absurd a (q t rfl)
      · exact q
    · subst b
      rw [fi_ct_12 x1 a]
      rcases h4 with ⟨q, _⟩ | ⟨_, q⟩
      · exact q
      · have := q t rfl; omega
/-- the top's colour goes up by one, and its child c is pushed -/
theorem fi_push {N : Nat} {K : Nat → Int32} {L R cN S : Nat → Nat} {t v c : Nat} (h : fi_ok N K L R cN S (t + 1)) (hcN : c < N) (hc5 : K c ≠ 5) (hc0 : cN c = 0) (hcx : c ≠ S t)
    (hv : cN (S t) = 0 ∧ v = 1 ∧ gr_lf (K (S t)) ∧ c = L (S t) ∨ cN (S t) = 1 ∧ v = 2 ∧ gr_rg (K (S t)) ∧ c = R (S t)) :
    fi_ok N K L R (updN cN (S t) v) (updN S (t + 1) c) (t + 1 + 1) := by
  obtain ⟨h1, h2, h3, h4⟩ := h
  obtain ⟨x1, x2, x3, _, x5⟩ := h2 t (by omega)
  have hne : ∀ i, i < t → S i ≠ S t := fun i hi => x3 i hi
  have keep3 : ∀ n, cN n = 3 → updN cN (S t) v n = 3 := by
    intro n hn
    rw [uN_n (by intro z; subst z; omega)]; exact hn
  have hv3 : v ≤ 3 := by omega
  have hSl : ∀ i, i < t + 1 → updN S (t + 1) c i = S i := fun i hi => uN_n (by omega)
  have hSc : updN S (t + 1) c (t + 1) = c := uN_s
  have hcS : ∀ i, i < t + 1 → S i ≠ c := by
    intro i hi e
    by_cases q : i = t
    · subst q; exact hcx e.symm
    · have := (h2 i hi).2.2.2.1 (by omega)
      rw [e] at this
      omega
  refine ⟨fun n hn => ?_, fun i hi => ?_, fun n hn hcn => ?_, ?_⟩
  · by_cases z : n = S t
    · subst z; rw [uN_s]; exact ⟨hv3, fun q => absurd q x2⟩
    · rw [uN_n z]; exact h1 n hn
  · by_cases q1 : i = t + 1
    · subst q1
      rw [hSc]
      refine ⟨hcN, hc5, fun j hj => by rw [hSl j hj]; exact hcS j hj, fun q => by omega, fun _ => ?_⟩
      rw [uN_n hcx, hc0]
      exact ⟨by omega, fun z => by omega, fun z => by omega⟩
    · have hi' : i < t + 1 := by omega
      obtain ⟨y1, y2, y3, y4, y5⟩ := h2 i hi'
      rw [hSl i hi']
      refine ⟨y1, y2, fun j hj => by rw [hSl j (by omega)]; exact y3 j hj, fun _ => ?_, fun z => by omega⟩
      by_cases q : i = t
      · subst q
        rw [hSc, uN_s]
        rcases hv with ⟨a, b, d, e⟩ | ⟨a, b, d, e⟩
        · exact Or.inl ⟨b, d, e⟩
        · exact Or.inr ⟨b, d, e, keep3 _ ((y5 rfl).2.1 (by omega) (Or.inr d))⟩
      · rw [uN_n (hne i (by omega)), hSl (i + 1) (by omega)]
        rcases y4 (by omega) with ⟨a, b, d⟩ | ⟨a, b, d, e⟩
        · exact Or.inl ⟨a, b, d⟩
        · exact Or.inr ⟨a, b, d, keep3 _ e⟩
  · by_cases z : n = S t
    · exact ⟨t, by omega, by rw [hSl t (by omega)]; exact z.symm⟩
    · rw [uN_n z] at hcn
      obtain ⟨i, hi, e⟩ := h3 n hn hcn
      exact ⟨i, by omega, by rw [hSl i hi]; exact e⟩
  · right
    refine ⟨?_, fun i hi => by have : i = t + 1 := by omega
                               subst this; rw [hSc, uN_n hcx]; exact hc0⟩
    rcases hv with ⟨a, b, _⟩ | ⟨a, b, _⟩
    · subst b
      rw [fi_ct_01 x1 a]
      rcases h4 with ⟨_, q⟩ | ⟨q, _⟩
      · exact absurd a (q t rfl)
      · omega
    · subst b
      rw [fi_ct_12 x1 a]
      rcases h4 with ⟨q, _⟩ | ⟨_, q⟩
      · omega
      · have := q t rfl; omega
/-- a child that is on the stack: no solution -/
theorem fi_cyc {N : Nat} {K : Nat → Int32} {L R cN S : Nat → Nat} {t c : Nat} (h : fi_ok N K L R cN S (t + 1)) (hcN : c < N) (hc : cN c = 1 ∨ cN c = 2 ∨ c = S t) (hch : gr_ch K L R (S t) c) {r : Nat → mt_T} (hr : gr_sat N K L R r) : False := by
  obtain ⟨h1, h2, h3, _⟩ := h
  have hdn : ∀ d i, i + d = t → mt_sz (r (S t)) ≤ mt_sz (r (S i)) := by
    intro d
    induction d with
    | zero => intro i hi; have : i = t := by omega
              subst this; exact Nat.le_refl _
    | succ d ih =>
      intro i hi
      have h4 := ih (i + 1) (by omega)
      obtain ⟨y1, y2, _, y4, _⟩ := h2 i (by omega)
      have hcc : gr_ch K L R (S i) (S (i + 1)) := by
        rcases y4 (by omega) with ⟨_, b, e⟩ | ⟨_, b, e, _⟩
        · exact Or.inl ⟨Or.inr b, e⟩
        · exact Or.inr ⟨b, e⟩
      rcases gr_fall hr y1 hcc with ⟨z, _⟩ | ⟨_, z⟩
      · exact absurd z y2
      · omega
  have hx := h2 t (by omega)
  have hlt : mt_sz (r c) < mt_sz (r (S t)) := by
    rcases gr_fall hr hx.1 hch with ⟨z, _⟩ | ⟨_, z⟩
    · exact absurd z hx.2.1
    · exact z
  have hon : ∃ i, i < t + 1 ∧ S i = c := by
    rcases hc with q | q | q
    · exact h3 c hcN (Or.inl q)
    · exact h3 c hcN (Or.inr q)
    · exact ⟨t, by omega, q.symm⟩
  obtain ⟨i, hi, e⟩ := hon
  have := hdn (t - i) i (by omega)
  rw [e] at this
  omega

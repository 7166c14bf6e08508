/-- what nodes name stands for its root -/
theorem gr_comp {N : Nat} {K : Nat → Int32} {L R rt ds : Nat → Nat} {D : Nat} (h : fo_is N K L rt ds D)
    (hl : ∀ n, n < N → gr_lf (K n) → L n < N) (hg : ∀ n, n < N → gr_rg (K n) → R n < N) (r : Nat → mt_T) :
    gr_sat N K (fun n => rt (L n)) (fun n => rt (R n)) r ↔ gr_sat N K L R r := by
  have key : (∀ m, m < N → r m = r (rt m)) → ∀ n, n < N → gr_at K (fun n => rt (L n)) (fun n => rt (R n)) r n = gr_at K L R r n := by
    intro hr n hn
    by_cases h5 : K n = 5
    · rw [gr_at_5 h5, gr_at_5 h5, ← hr _ ((h n hn).2.2.2.1 h5).1]
    · by_cases h3 : K n = 3
      · rw [gr_at_3 h3, gr_at_3 h3, ← hr _ (hl n hn (Or.inl h3))]
      · by_cases h2 : K n = 2
        · rw [gr_at_2 h2, gr_at_2 h2, ← hr _ (hl n hn (Or.inr (Or.inl h2))), ← hr _ (hg n hn (Or.inl h2))]
        · by_cases h4 : K n = 4
          · rw [gr_at_4 h4, gr_at_4 h4, ← hr _ (hl n hn (Or.inr (Or.inr h4))), ← hr _ (hg n hn (Or.inr h4))]
          · unfold gr_at
            rw [if_neg h5, if_neg h5, if_neg h3, if_neg h3, if_neg h2, if_neg h2, if_neg h4, if_neg h4]
  constructor
  · intro hs
    have hr : ∀ m, m < N → r m = r (rt m) := by
      intro m hm
      by_cases h5 : K m = 5
      · have e := hs m hm
        rw [gr_at_5 h5] at e
        rw [← ((h m hm).2.2.2.1 h5).2.1]; exact e
      · rw [((h m hm).2.2.1 h5).1]
    intro n hn
    rw [← key hr n hn]; exact hs n hn
  · intro hs
    have hr : ∀ m, m < N → r m = r (rt m) := fun m hm => fo_eq h hs (ds m) m hm rfl
    intro n hn
    rw [key hr n hn]; exact hs n hn
/-- all roots measured: then all nodes can be -/
theorem gr_M_links {N : Nat} {K : Nat → Int32} {L R : Nat → Nat} {P : Nat → Prop} {c : Nat → mt_T} (h : gr_M N K L R P c) (hr : ∀ n, n < N → K n ≠ 5 → P n) (hl : ∀ n, n < N → K n = 5 → L n < N ∧ K (L n) ≠ 5) :
    ∀ i, i ≤ N → ∃ c', gr_M N K L R (fun j => P j ∨ j < i) c' := by
  intro i
  induction i with
  | zero =>
    intro _
    refine ⟨c, h.1, fun n hn hP => ?_⟩
    have hP' : P n := by rcases hP with z | z; exact z; omega
    obtain ⟨a, b, d, e⟩ := h.2 n hn hP'
    exact ⟨a, b, fun m hm => ⟨(d m hm).1, Or.inl (d m hm).2⟩, e⟩
  | succ i ih =>
    intro hi
    obtain ⟨c', hc'⟩ := ih (by omega)
    by_cases hp : P i
    · refine ⟨c', hc'.1, fun n hn hP => ?_⟩
      have hP' : P n ∨ n < i := by
        rcases hP with z | z
        · exact Or.inl z
        · by_cases e : n = i
          · exact Or.inl (e ▸ hp)
          · exact Or.inr (by omega)
      obtain ⟨a, b, d, e⟩ := hc'.2 n hn hP'
      refine ⟨a, b, fun m hm => ⟨(d m hm).1, ?_⟩, e⟩
      rcases (d m hm).2 with z | z
      · exact Or.inl z
      · exact Or.inr (by omega)
    · have h5 : K i = 5 := Classical.byContradiction (fun z => hp (hr i (by omega) z))
      have hk : gr_kd (K i) := Or.inr (Or.inr (Or.inr (Or.inr (Or.inr (Or.inl h5)))))
      have hst := gr_M_step hc' (n := i) (by omega) (by rintro (z | z); exact hp z; omega) (by
        intro m hm
        rcases hm with ⟨_, rfl⟩ | ⟨z, _⟩
        · exact ⟨(hl i (by omega) h5).1, Or.inl (hr _ (hl i (by omega) h5).1 (hl i (by omega) h5).2)⟩
        · rw [h5] at z; rcases z with z | z <;> exact absurd z (by decide)) hk
      refine ⟨_, hst.1, fun n hn hP => ?_⟩
      have hP' : (P n ∨ n < i) ∨ n = i := by
        rcases hP with z | z
        · exact Or.inl (Or.inl z)
        · by_cases e : n = i
          · exact Or.inr e
          · exact Or.inl (Or.inr (by omega))
      obtain ⟨a, b, d, e⟩ := hst.2 n hn hP'
      refine ⟨a, b, fun m hm => ⟨(d m hm).1, ?_⟩, e⟩
      rcases (d m hm).2 with (z | z) | z
      · exact Or.inl z
      · exact Or.inr (by omega)
      · exact Or.inr (by omega)
theorem mg_iff {N : Nat} {A B : (Nat → mt_T) → Prop} {c : Nat → mt_T} (h : mg_is N A c) (e : ∀ r, A r ↔ B r) : mg_is N B c :=
  ⟨h.1, fun s hs => (e _).mp (h.2.1 s hs), fun r hr hB => h.2.2 r hr ((e r).mpr hB)⟩
/-- sums over the first n -/
def sm (g : Nat → Nat) : Nat → Nat
  | 0 => 0
  | n + 1 => sm g n + g n
theorem sm_same {g g' : Nat → Nat} : ∀ n, (∀ j, j < n → g' j = g j) → sm g' n = sm g n := by
  intro n
  induction n with
  | zero => intro _; rfl
  | succ n ih => intro h; simp only [sm]; rw [ih (fun j hj => h j (by omega)), h n (by omega)]
theorem sm_one {g g' : Nat → Nat} {a : Nat} : ∀ n, a < n → (∀ j, j < n → j ≠ a → g' j = g j) → sm g' n + g a = sm g n + g' a := by
  intro n
  induction n with
  | zero => intro h; omega
  | succ n ih =>
    intro h hj
    simp only [sm]
    by_cases e : a = n
    · subst e
      rw [sm_same a (fun j hj' => hj j (by omega) (by omega))]; omega
    · have h1 := ih (by omega) (fun j hj' => hj j (by omega))
      have h2 := hj n (by omega) (by omega)
      omega
theorem sm_le {g : Nat → Nat} {b : Nat} : ∀ n, (∀ j, j < n → g j ≤ b) → sm g n ≤ n * b := by
  intro n
  induction n with
  | zero => intro _; exact Nat.zero_le _
  | succ n ih =>
    intro h
    have h1 := ih (fun j hj => h j (by omega))
    have h2 := h n (by omega)
    simp only [sm]
    rw [Nat.succ_mul]; omega

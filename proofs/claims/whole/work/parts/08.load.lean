/-- the nodes from B to M are laid for trees: tg the tree that a node stands for -/
def tl_is (B M : Nat) (K : Nat → Int32) (L R : Nat → Nat) (tg : Nat → mt_T) : Prop := ∀ n, B ≤ n → n < M → mt_wf (tg n) ∧
  ((K n = 10 ∧ ∃ v, tg n = .leaf (10 + v)) ∨
   (K n = 5 ∧ B ≤ L n ∧ L n < M ∧ tg (L n) = tg n ∧ K (L n) = 10) ∨
   (K n = 0 ∧ tg n = .leaf 0) ∨ (K n = 1 ∧ tg n = .leaf 1) ∨
   (K n = 3 ∧ B ≤ L n ∧ L n < M ∧ tg n = .branch 3 (tg (L n)) (.leaf 0)) ∨
   (K n = 2 ∧ B ≤ L n ∧ L n < M ∧ B ≤ R n ∧ R n < M ∧ tg n = .branch 2 (tg (L n)) (tg (R n))) ∨
   (K n = 4 ∧ B ≤ L n ∧ L n < M ∧ B ≤ R n ∧ R n < M ∧ tg n = .branch 4 (tg (L n)) (tg (R n))))
theorem tl_1 {B M : Nat} {K : Nat → Int32} {L R : Nat → Nat} {tg : Nat → mt_T} {nv : Nat → Nat} (h : tl_is B M K L R tg)
    (hv : ∀ n v, B ≤ n → n < M → K n = 10 → tg n = .leaf (10 + v) → nv v = n) {r : Nat → mt_T} (hs : ∀ n, B ≤ n → n < M → r n = gr_at K L R r n) :
    ∀ d n, B ≤ n → n < M → mt_sz (tg n) ≤ d → r n = mt_sub (fun v => r (nv v)) (tg n) := by
  have hvar : ∀ n, B ≤ n → n < M → K n = 10 → r n = mt_sub (fun v => r (nv v)) (tg n) := by
    intro n h1 h2 hk
    rcases (h n h1 h2).2 with ⟨_, v, e⟩ | ⟨z, _⟩ | ⟨z, _⟩ | ⟨z, _⟩ | ⟨z, _⟩ | ⟨z, _⟩ | ⟨z, _⟩
    · rw [e, mt_sub, if_neg (by omega)]
      have : 10 + v - 10 = v := by omega
      rw [this, hv n v h1 h2 hk e]
    all_goals (rw [hk] at z; exact absurd z (by decide))
  have z0 : mt_sub (fun v => r (nv v)) (.leaf 0) = .leaf 0 := by rw [mt_sub, if_pos (by omega)]
  have z1 : mt_sub (fun v => r (nv v)) (.leaf 1) = .leaf 1 := by rw [mt_sub, if_pos (by omega)]
  intro d
  induction d with
  | zero =>
    intro n h1 h2 hd
    exfalso
    generalize tg n = t at hd
    cases t <;> simp only [mt_sz] at hd <;> omega
  | succ d ih =>
    intro n h1 h2 hd
    rcases (h n h1 h2).2 with ⟨z, _⟩ | ⟨z, l1, l2, e, kv⟩ | ⟨z, e⟩ | ⟨z, e⟩ | ⟨z, l1, l2, e⟩ | ⟨z, l1, l2, r1, r2, e⟩ | ⟨z, l1, l2, r1, r2, e⟩
    · exact hvar n h1 h2 z
    · rw [hs n h1 h2, gr_at_5 z, hvar _ l1 l2 kv, e]
    · rw [hs n h1 h2, gr_at_0 z, e, z0]
    · rw [hs n h1 h2, gr_at_1 z, e, z1]
    · rw [e] at hd
      simp only [mt_sz] at hd
      rw [hs n h1 h2, gr_at_3 z, e, mt_sub, z0, ih _ l1 l2 (by omega)]
    · rw [e] at hd
      simp only [mt_sz] at hd
      rw [hs n h1 h2, gr_at_2 z, e, mt_sub, ih _ l1 l2 (by omega), ih _ r1 r2 (by omega)]
    · rw [e] at hd
      simp only [mt_sz] at hd
      rw [hs n h1 h2, gr_at_4 z, e, mt_sub, ih _ l1 l2 (by omega), ih _ r1 r2 (by omega)]
theorem tl_2 {B M : Nat} {K : Nat → Int32} {L R : Nat → Nat} {tg : Nat → mt_T} (h : tl_is B M K L R tg) {r s : Nat → mt_T} (hr : ∀ n, B ≤ n → n < M → r n = mt_sub s (tg n)) :
    ∀ n, B ≤ n → n < M → r n = gr_at K L R r n := by
  have z0 : mt_sub s (.leaf 0) = .leaf 0 := by rw [mt_sub, if_pos (by omega)]
  have z1 : mt_sub s (.leaf 1) = .leaf 1 := by rw [mt_sub, if_pos (by omega)]
  intro n h1 h2
  rcases (h n h1 h2).2 with ⟨z, _⟩ | ⟨z, l1, l2, e, _⟩ | ⟨z, e⟩ | ⟨z, e⟩ | ⟨z, l1, l2, e⟩ | ⟨z, l1, l2, r1, r2, e⟩ | ⟨z, l1, l2, r1, r2, e⟩
  · rw [gr_at_v z]
  · rw [gr_at_5 z, hr n h1 h2, hr _ l1 l2, e]
  · rw [gr_at_0 z, hr n h1 h2, e, z0]
  · rw [gr_at_1 z, hr n h1 h2, e, z1]
  · rw [gr_at_3 z, hr n h1 h2, hr _ l1 l2, e, mt_sub, z0]
  · rw [gr_at_2 z, hr n h1 h2, hr _ l1 l2, hr _ r1 r2, e, mt_sub]
  · rw [gr_at_4 z, hr n h1 h2, hr _ l1 l2, hr _ r1 r2, e, mt_sub]
/-- what is said of the nodes below N stays, when nodes behind them are laid -/
theorem gr_sat_ext {N M : Nat} {K K' : Nat → Int32} {L L' R R' : Nat → Nat} {r : Nat → mt_T} (hN : N ≤ M) (hK : ∀ n, n < N → K' n = K n)
    (hL : ∀ n, n < N → K n = 5 ∨ gr_lf (K n) → L' n = L n) (hR : ∀ n, n < N → gr_rg (K n) → R' n = R n) :
    gr_sat M K' L' R' r ↔ gr_sat N K L R r ∧ ∀ n, N ≤ n → n < M → r n = gr_at K' L' R' r n := by
  have hat : ∀ n, n < N → gr_at K' L' R' r n = gr_at K L R r n := by
    intro n hn
    by_cases h5 : K n = 5
    · rw [gr_at_5 (by rw [hK n hn]; exact h5), gr_at_5 h5, hL n hn (Or.inl h5)]
    · by_cases h3 : K n = 3
      · rw [gr_at_3 (by rw [hK n hn]; exact h3), gr_at_3 h3, hL n hn (Or.inr (Or.inl h3))]
      · by_cases h2 : K n = 2
        · rw [gr_at_2 (by rw [hK n hn]; exact h2), gr_at_2 h2, hL n hn (Or.inr (Or.inr (Or.inl h2))), hR n hn (Or.inl h2)]
        · by_cases h4 : K n = 4
          · rw [gr_at_4 (by rw [hK n hn]; exact h4), gr_at_4 h4, hL n hn (Or.inr (Or.inr (Or.inr h4))), hR n hn (Or.inr h4)]
          · unfold gr_at
            rw [hK n hn, if_neg h5, if_neg h5, if_neg h3, if_neg h3, if_neg h2, if_neg h2, if_neg h4, if_neg h4]
  constructor
  · intro h
    refine ⟨fun n hn => ?_, fun n _ h2 => h n h2⟩
    rw [← hat n hn]; exact h n (by omega)
  · rintro ⟨h1, h2⟩ n hn
    rcases Nat.lt_or_ge n N with z | z
    · rw [hat n z]; exact h1 n z
    · exact h2 n z hn
/-- a solution below N, changed from N on -/
theorem gr_sat_low {N : Nat} {K : Nat → Int32} {L R : Nat → Nat} {r r' : Nat → mt_T} (hl : ∀ n, n < N → K n = 5 ∨ gr_lf (K n) → L n < N) (hg : ∀ n, n < N → gr_rg (K n) → R n < N)
    (e : ∀ n, n < N → r' n = r n) (h : gr_sat N K L R r) : gr_sat N K L R r' := by
  intro n hn
  rw [e n hn, h n hn]
  refine (gr_at_congr (fun m hm => ?_) (e n hn)).symm
  rcases hm with ⟨z, rfl⟩ | ⟨z, rfl⟩
  · exact e _ (hl n hn z)
  · exact e _ (hg n hn z)

def mt_hd : mt_T → Nat
  | .leaf n => n
  | .branch c _ _ => c
def gr_cn (k : Int32) : Prop := k = 0 ∨ k = 1 ∨ k = 2 ∨ k = 3 ∨ k = 4
theorem gr_at_0 {K : Nat → Int32} {L R : Nat → Nat} {r : Nat → mt_T} {n : Nat} (h : K n = 0) : gr_at K L R r n = .leaf 0 := by
  unfold gr_at; rw [h, if_neg (by decide), if_pos rfl]
theorem gr_at_1 {K : Nat → Int32} {L R : Nat → Nat} {r : Nat → mt_T} {n : Nat} (h : K n = 1) : gr_at K L R r n = .leaf 1 := by
  unfold gr_at; rw [h, if_neg (by decide), if_neg (by decide), if_pos rfl]
theorem gr_at_3 {K : Nat → Int32} {L R : Nat → Nat} {r : Nat → mt_T} {n : Nat} (h : K n = 3) : gr_at K L R r n = .branch 3 (r (L n)) (.leaf 0) := by
  unfold gr_at; rw [h, if_neg (by decide), if_neg (by decide), if_neg (by decide), if_pos rfl]
theorem gr_at_2 {K : Nat → Int32} {L R : Nat → Nat} {r : Nat → mt_T} {n : Nat} (h : K n = 2) : gr_at K L R r n = .branch 2 (r (L n)) (r (R n)) := by
  unfold gr_at; rw [h, if_neg (by decide), if_neg (by decide), if_neg (by decide), if_neg (by decide), if_pos rfl]
theorem gr_at_4 {K : Nat → Int32} {L R : Nat → Nat} {r : Nat → mt_T} {n : Nat} (h : K n = 4) : gr_at K L R r n = .branch 4 (r (L n)) (r (R n)) := by
  unfold gr_at; rw [h, if_neg (by decide), if_neg (by decide), if_neg (by decide), if_neg (by decide), if_neg (by decide), if_pos rfl]
theorem gr_at_5 {K : Nat → Int32} {L R : Nat → Nat} {r : Nat → mt_T} {n : Nat} (h : K n = 5) : gr_at K L R r n = r (L n) := by
  unfold gr_at; rw [h, if_pos rfl]
theorem gr_at_v {K : Nat → Int32} {L R : Nat → Nat} {r : Nat → mt_T} {n : Nat} (h : K n = 10) : gr_at K L R r n = r n := by
  unfold gr_at; rw [h, if_neg (by decide), if_neg (by decide), if_neg (by decide), if_neg (by decide), if_neg (by decide), if_neg (by decide)]
theorem gr_hd {K : Nat → Int32} {L R : Nat → Nat} {r : Nat → mt_T} {n : Nat} (h : gr_cn (K n)) : nI (mt_hd (gr_at K L R r n)) = K n := by
  rcases h with h | h | h | h | h
  · rw [gr_at_0 h, h]; rfl
  · rw [gr_at_1 h, h]; rfl
  · rw [gr_at_2 h, h]; rfl
  · rw [gr_at_3 h, h]; rfl
  · rw [gr_at_4 h, h]; rfl
/-- a node's place: what the two tables hold elsewhere is the same -/
theorem gr_link {N : Nat} {K K' : Nat → Int32} {L L' R R' : Nat → Nat} {a b : Nat} {r : Nat → mt_T} (ha : a < N) (hKa : K' a = 5) (hLa : L' a = b)
    (hK : ∀ j, j < N → j ≠ a → K' j = K j) (hL : ∀ j, j < N → j ≠ a → L' j = L j) (hR : ∀ j, j < N → j ≠ a → R' j = R j) :
    gr_sat N K' L' R' r ↔ r a = r b ∧ ∀ n, n < N → n ≠ a → r n = gr_at K L R r n := by
  have hat : ∀ n, n < N → n ≠ a → gr_at K' L' R' r n = gr_at K L R r n := by
    intro n hn h; unfold gr_at; rw [hK n hn h, hL n hn h, hR n hn h]
  constructor
  · intro h
    refine ⟨?_, fun n hn e => ?_⟩
    · have := h a ha; rw [gr_at_5 hKa, hLa] at this; exact this
    · rw [← hat n hn e]; exact h n hn
  · rintro ⟨h0, h⟩ n hn
    by_cases e : n = a
    · subst e; rw [gr_at_5 hKa, hLa]; exact h0
    · rw [hat n hn e]; exact h n hn e
theorem gr_join_v {N : Nat} {K K' : Nat → Int32} {L L' R R' : Nat → Nat} {a b : Nat} {r : Nat → mt_T} (ha : a < N) (hKa : K' a = 5) (hLa : L' a = b)
    (hK : ∀ j, j < N → j ≠ a → K' j = K j) (hL : ∀ j, j < N → j ≠ a → L' j = L j) (hR : ∀ j, j < N → j ≠ a → R' j = R j) (hv : K a = 10) :
    gr_sat N K' L' R' r ↔ r a = r b ∧ gr_sat N K L R r := by
  rw [gr_link ha hKa hLa hK hL hR]
  refine and_congr_right (fun _ => ⟨fun h n hn => ?_, fun h n hn _ => h n hn⟩)
  by_cases e : n = a
  · subst e; rw [gr_at_v hv]
  · exact h n hn e
theorem gr_join_c {N : Nat} {K K' : Nat → Int32} {L L' R R' : Nat → Nat} {a b : Nat} {r : Nat → mt_T} (ha : a < N) (hb : b < N) (hab : a ≠ b) (hKa : K' a = 5) (hLa : L' a = b)
    (hK : ∀ j, j < N → j ≠ a → K' j = K j) (hL : ∀ j, j < N → j ≠ a → L' j = L j) (hR : ∀ j, j < N → j ≠ a → R' j = R j) (hc : gr_cn (K a)) (he : K a = K b) :
    gr_sat N K' L' R' r ∧ (gr_lf (K a) → r (L a) = r (L b)) ∧ (gr_rg (K a) → r (R a) = r (R b)) ↔ r a = r b ∧ gr_sat N K L R r := by
  rw [gr_link ha hKa hLa hK hL hR]
  constructor
  · rintro ⟨⟨h0, h⟩, hl, hr⟩
    refine ⟨h0, fun n hn => ?_⟩
    by_cases e : n = a
    · subst e
      rw [h0, h b hb (Ne.symm hab)]
      rcases hc with z | z | z | z | z
      · rw [gr_at_0 z, gr_at_0 (he ▸ z)]
      · rw [gr_at_1 z, gr_at_1 (he ▸ z)]
      · rw [gr_at_2 z, gr_at_2 (he ▸ z), hl (Or.inr (Or.inl z)), hr (Or.inl z)]
      · rw [gr_at_3 z, gr_at_3 (he ▸ z), hl (Or.inl z)]
      · rw [gr_at_4 z, gr_at_4 (he ▸ z), hl (Or.inr (Or.inr z)), hr (Or.inr z)]
    · exact h n hn e
  · rintro ⟨h0, h⟩
    have e1 := h a ha
    have e2 := h b hb
    rw [h0, e2] at e1
    refine ⟨⟨h0, fun n hn _ => h n hn⟩, fun hl => ?_, fun hr => ?_⟩
    · rcases hl with z | z | z
      · rw [gr_at_3 z, gr_at_3 (he ▸ z), Lean.RArray.branch.injEq] at e1; exact e1.2.1.symm
      · rw [gr_at_2 z, gr_at_2 (he ▸ z), Lean.RArray.branch.injEq] at e1; exact e1.2.1.symm
      · rw [gr_at_4 z, gr_at_4 (he ▸ z), Lean.RArray.branch.injEq] at e1; exact e1.2.1.symm
    · rcases hr with z | z
      · rw [gr_at_2 z, gr_at_2 (he ▸ z), Lean.RArray.branch.injEq] at e1; exact e1.2.2.symm
      · rw [gr_at_4 z, gr_at_4 (he ▸ z), Lean.RArray.branch.injEq] at e1; exact e1.2.2.symm
theorem gr_clash {N : Nat} {K : Nat → Int32} {L R : Nat → Nat} {a b : Nat} {r : Nat → mt_T} (ha : a < N) (hb : b < N) (ca : gr_cn (K a)) (cb : gr_cn (K b)) (he : K a ≠ K b)
    (h : gr_sat N K L R r) : r a ≠ r b := by
  intro e
  rw [h a ha, h b hb] at e
  exact he (by rw [← gr_hd (L := L) (R := R) (r := r) ca, ← gr_hd (L := L) (R := R) (r := r) cb, e])
/-- the links are a forest: rt the root of a node, ds its distance -/
def fo_is (N : Nat) (K : Nat → Int32) (L : Nat → Nat) (rt ds : Nat → Nat) (D : Nat) : Prop := ∀ n, n < N →
  rt n < N ∧ K (rt n) ≠ 5 ∧ (K n ≠ 5 → rt n = n ∧ ds n = 0) ∧ (K n = 5 → L n < N ∧ rt (L n) = rt n ∧ ds n = ds (L n) + 1) ∧ ds n ≤ D
theorem fo_rr {N : Nat} {K : Nat → Int32} {L rt ds : Nat → Nat} {D : Nat} (h : fo_is N K L rt ds D) {n : Nat} (hn : n < N) : rt (rt n) = rt n :=
  ((h (rt n) (h n hn).1).2.2.1 (h n hn).2.1).1
theorem fo_join {N : Nat} {K K' : Nat → Int32} {L L' rt ds : Nat → Nat} {D a b : Nat} (h : fo_is N K L rt ds D) (ha : a < N) (hb : b < N) (hab : a ≠ b) (ra : K a ≠ 5) (rb : K b ≠ 5)
    (hKa : K' a = 5) (hLa : L' a = b) (hK : ∀ j, j < N → j ≠ a → K' j = K j) (hL : ∀ j, j < N → j ≠ a → L' j = L j) :
    fo_is N K' L' (fun n => if rt n = a then b else rt n) (fun n => if rt n = a then ds n + 1 else ds n) (D + 1) := by
  have rta := ((h a ha).2.2.1 ra).1
  have dsa := ((h a ha).2.2.1 ra).2
  have rtb := ((h b hb).2.2.1 rb).1
  have dsb := ((h b hb).2.2.1 rb).2
  intro n hn
  obtain ⟨h1, h2, h3, h4, h5⟩ := h n hn
  refine ⟨?_, ?_, ?_, ?_, ?_⟩
  · show (if rt n = a then b else rt n) < N
    split
    · exact hb
    · exact h1
  · show K' (if rt n = a then b else rt n) ≠ 5
    split
    · rw [hK b hb (Ne.symm hab)]; exact rb
    · rename_i z; rw [hK _ h1 z]; exact h2
  · intro hk
    have hna : n ≠ a := by intro e; rw [e] at hk; exact hk hKa
    rw [hK n hn hna] at hk
    obtain ⟨e1, e2⟩ := h3 hk
    have : ¬ rt n = a := by rw [e1]; exact hna
    exact ⟨by show (if rt n = a then b else rt n) = n; rw [if_neg this, e1], by show (if rt n = a then ds n + 1 else ds n) = 0; rw [if_neg this, e2]⟩
  · intro hk
    by_cases hna : n = a
    · subst hna
      rw [hLa]
      refine ⟨hb, ?_, ?_⟩
      · show (if rt b = n then b else rt b) = (if rt n = n then b else rt n)
        rw [if_pos rta, if_neg (by rw [rtb]; exact Ne.symm hab), rtb]
      · show (if rt n = n then ds n + 1 else ds n) = (if rt b = n then ds b + 1 else ds b) + 1
        rw [if_pos rta, if_neg (by rw [rtb]; exact Ne.symm hab), dsa, dsb]
    · rw [hK n hn hna] at hk
      obtain ⟨e1, e2, e3⟩ := h4 hk
      rw [hL n hn hna]
      refine ⟨e1, ?_, ?_⟩
      · show (if rt (L n) = a then b else rt (L n)) = (if rt n = a then b else rt n)
        rw [e2]
      · show (if rt n = a then ds n + 1 else ds n) = (if rt (L n) = a then ds (L n) + 1 else ds (L n)) + 1
        rw [e2, e3]; split <;> rfl
  · show (if rt n = a then ds n + 1 else ds n) ≤ D + 1
    split <;> omega
theorem fo_eq {N : Nat} {K : Nat → Int32} {L R rt ds : Nat → Nat} {D : Nat} (h : fo_is N K L rt ds D) {r : Nat → mt_T} (hr : gr_sat N K L R r) :
    ∀ d n, n < N → ds n = d → r n = r (rt n) := by
  intro d
  induction d with
  | zero =>
    intro n hn hd
    by_cases hk : K n = 5
    · have := ((h n hn).2.2.2.1 hk).2.2; omega
    · rw [((h n hn).2.2.1 hk).1]
  | succ d ih =>
    intro n hn hd
    by_cases hk : K n = 5
    · obtain ⟨e1, e2, e3⟩ := (h n hn).2.2.2.1 hk
      rw [hr n hn, gr_at_5 hk, ← e2]
      exact ih (L n) e1 (by omega)
    · rw [((h n hn).2.2.1 hk).1]
/-- how many of the first nodes are links -/
def lk_ct (K : Nat → Int32) : Nat → Nat
  | 0 => 0
  | n + 1 => lk_ct K n + (if K n = 5 then 1 else 0)
theorem lk_le (K : Nat → Int32) : ∀ N, lk_ct K N ≤ N := by
  intro N
  induction N with
  | zero => exact Nat.le_refl 0
  | succ n ih => simp only [lk_ct]; split <;> omega
theorem lk_same {K K' : Nat → Int32} : ∀ N, (∀ j, j < N → K' j = K j) → lk_ct K' N = lk_ct K N := by
  intro N
  induction N with
  | zero => intro _; rfl
  | succ n ih => intro h; simp only [lk_ct]; rw [ih (fun j hj => h j (by omega)), h n (by omega)]
theorem lk_up {K K' : Nat → Int32} {a : Nat} (ra : K a ≠ 5) (hKa : K' a = 5) : ∀ N, a < N → (∀ j, j < N → j ≠ a → K' j = K j) → lk_ct K' N = lk_ct K N + 1 := by
  intro N
  induction N with
  | zero => intro h; omega
  | succ n ih =>
    intro h hK
    simp only [lk_ct]
    by_cases e : a = n
    · subst e
      rw [lk_same a (fun j hj => hK j (by omega) (by omega)), if_pos hKa, if_neg ra]
    · rw [ih (by omega) (fun j hj => hK j (by omega)), hK n (by omega) (Ne.symm e)]; omega
theorem lk_lt {K : Nat → Int32} {a : Nat} (ra : K a ≠ 5) : ∀ N, a < N → lk_ct K N < N := by
  intro N
  induction N with
  | zero => intro h; omega
  | succ n ih =>
    intro h
    simp only [lk_ct]
    by_cases e : a = n
    · subst e; rw [if_neg ra]; have := lk_le K a; omega
    · have := ih (by omega); split <;> omega

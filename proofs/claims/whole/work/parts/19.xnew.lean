variable {f_saidPlace f_instanceCount f_nodeCount f_equationCount f_stackCount f_wordCount f_depth f_cellCount f_consCount f_closureCount f_stepCount f_runAnswer f_writtenCount : Int32} {a_kinds a_values a_spans a_bounds a_binders a_lengths a_parameterCounts a_typeCodes a_typeLengths a_instanceFunctions a_nodeKinds a_nodeLefts a_nodeRights a_nodeSizes a_equationLefts a_equationRights a_stackLefts a_stackRights a_words a_boundWords a_cellFirsts a_cellSeconds a_closureTokens a_closureWords a_written : Nat → Int32}
theorem fo_new {N : Nat} {K K' : Nat → Int32} {L L' rt ds : Nat → Nat} {D : Nat} (h : fo_is N K L rt ds D) (hK : ∀ n, n < N → K' n = K n) (hL : ∀ n, n < N → L' n = L n) (hn : K' N ≠ 5) :
    fo_is (N + 1) K' L' (fun n => if n < N then rt n else n) (fun n => if n < N then ds n else 0) D := by
  intro n hnN
  by_cases z : n < N
  · obtain ⟨h1, h2, h3, h4, h5⟩ := h n z
    simp only [if_pos z]
    refine ⟨by omega, by rw [hK _ h1]; exact h2, fun hk => h3 (by rw [← hK n z]; exact hk), fun hk => ?_, h5⟩
    obtain ⟨e1, e2, e3⟩ := h4 (by rw [← hK n z]; exact hk)
    rw [hL n z]
    simp only [if_pos e1]
    exact ⟨by omega, e2, e3⟩
  · have e : n = N := by omega
    subst e
    simp only [if_neg z]
    exact ⟨by omega, hn, fun _ => ⟨by trivial, by trivial⟩, fun q => absurd q hn, by omega⟩
theorem lk_new {K K' : Nat → Int32} {N : Nat} (hK : ∀ n, n < N → K' n = K n) (hn : K' N ≠ 5) : lk_ct K' (N + 1) = lk_ct K N := by
  simp only [lk_ct]; rw [lk_same N hK, if_neg hn]; rfl
/-- a new node behind the others -/
theorem xg_new {N : Nat} {K nl nr : Nat → Int32} {L R rt ds : Nat → Nat} (hg : xg_ok N K nl nr L R rt ds) (c p1 p2 : Int32) (a b : Nat) (hc : gr_kd c) (h5 : c ≠ 5)
    (hl : gr_lf c → p1 = nI a ∧ a < N + 1) (hr : gr_rg c → p2 = nI b ∧ b < N + 1) (hv : c = 10 → p1 = -1) :
    ∃ rt' ds', xg_ok (N + 1) (upd K N c) (upd nl N p1) (upd nr N p2) (updN L N a) (updN R N b) rt' ds' ∧
      (∀ r, gr_sat (N + 1) (upd K N c) (updN L N a) (updN R N b) r ↔ gr_sat N K L R r ∧ (c = 10 ∨ r N = gr_at (fun _ => c) (fun _ => a) (fun _ => b) r 0)) := by
  have kN : ∀ n, n < N → upd K N c n = K n := fun n hn => pk_un (by omega)
  have lN' : ∀ n, n < N → updN L N a n = L n := fun n hn => uN_n (by omega)
  have rN' : ∀ n, n < N → updN R N b n = R n := fun n hn => uN_n (by omega)
  refine ⟨fun n => if n < N then rt n else n, fun n => if n < N then ds n else 0, ⟨fun n hn => ?_, ?_⟩, fun r => ?_⟩
  · by_cases z : n = N
    · subst z
      rw [pk_us, pk_us, pk_us, uN_s, uN_s]
      exact ⟨hc, fun q => q.elim (fun w => absurd w h5) hl, hr, hv⟩
    · have hn' : n < N := by omega
      rw [pk_un z, pk_un z, pk_un z, uN_n z, uN_n z]
      obtain ⟨a1, a2, a3, a4⟩ := hg.1 n hn'
      exact ⟨a1, fun q => ⟨(a2 q).1, by have := (a2 q).2; omega⟩, fun q => ⟨(a3 q).1, by have := (a3 q).2; omega⟩, a4⟩
  · rw [lk_new kN (by rw [pk_us]; exact h5)]
    exact fo_new hg.2 kN lN' (by rw [pk_us]; exact h5)
  · rw [gr_sat_ext (N := N) (K := K) (L := L) (R := R) (by omega) kN (fun n hn _ => lN' n hn) (fun n hn _ => rN' n hn)]
    refine and_congr_right (fun _ => ?_)
    have e : gr_at (upd K N c) (updN L N a) (updN R N b) r N = if c = 10 then r N else gr_at (fun _ => c) (fun _ => a) (fun _ => b) r 0 := by
      by_cases z : c = 10
      · rw [if_pos z, gr_at_v (by rw [pk_us]; exact z)]
      · rw [if_neg z]
        rcases kd_cn hc h5 z with q | q | q | q | q
        · rw [gr_at_0 (by rw [pk_us]; exact q), gr_at_0 (K := fun _ => c) q]
        · rw [gr_at_1 (by rw [pk_us]; exact q), gr_at_1 (K := fun _ => c) q]
        · rw [gr_at_2 (by rw [pk_us]; exact q), gr_at_2 (K := fun _ => c) q, uN_s, uN_s]
        · rw [gr_at_3 (by rw [pk_us]; exact q), gr_at_3 (K := fun _ => c) q, uN_s]
        · rw [gr_at_4 (by rw [pk_us]; exact q), gr_at_4 (K := fun _ => c) q, uN_s, uN_s]
    constructor
    · intro h
      have h1 := h N (Nat.le_refl _) (by omega)
      rw [e] at h1
      by_cases z : c = 10
      · exact Or.inl z
      · rw [if_neg z] at h1; exact Or.inr h1
    · intro h n h1 h2
      have : n = N := by omega
      subst this
      rw [e]
      by_cases z : c = 10
      · rw [if_pos z]
      · rw [if_neg z]; exact h.elim (fun q => absurd q z) id
theorem eq_mono {N M e : Nat} {el er : Nat → Int32} {EL ER : Nat → Nat} (h : eq_ok N e el er EL ER) (hM : N ≤ M) : eq_ok M e el er EL ER := by
  intro i hi
  obtain ⟨a, b, c, d⟩ := h i hi
  exact ⟨a, by omega, c, by omega⟩

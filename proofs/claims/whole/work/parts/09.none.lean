/-- nodes that are never measured have no finite types -/
theorem gr_none {N : Nat} {K : Nat → Int32} {L R rt ds : Nat → Nat} {D : Nat} (hf : fo_is N K L rt ds D) {Z : Nat → Prop}
    (hz : ∀ n, n < N → Z n → ∃ m, gr_ch K L R n m ∧ m < N ∧ Z m) {r : Nat → mt_T} (hr : gr_sat N K L R r) :
    ∀ μ n, n < N → Z n → mt_sz (r n) * (D + 1) + ds n < μ → False := by
  intro μ
  induction μ with
  | zero => intro n _ _ h; omega
  | succ μ ih =>
    intro n hn hZ h
    obtain ⟨m, hc, hm, hZm⟩ := hz n hn hZ
    refine ih m hm hZm ?_
    have dm := (hf m hm).2.2.2.2
    rcases gr_fall hr hn hc with ⟨h5, e, es⟩ | ⟨_, hlt⟩
    · have := ((hf n hn).2.2.2.1 h5).2.2
      rw [es]
      rw [e]
      omega
    · have h1 : (mt_sz (r m) + 1) * (D + 1) ≤ mt_sz (r n) * (D + 1) := Nat.mul_le_mul_right _ hlt
      rw [Nat.succ_mul] at h1
      omega
/-- small numbers through a cast -/
theorem nr_b {n : Nat} (h : n < 128) : vp_nar .byte ((nI n).toInt8.toInt32) = nI n := by
  rw [pk_vb, lg_i2b_small (by rw [nI_toInt (by omega)]; omega) (by rw [nI_toInt (by omega)]; omega)]
theorem nr_s {n : Nat} (h : n < 32768) : vp_nar .short ((nI n).toInt16.toInt32) = nI n := by
  rw [pk_vs, lg_i2s_small (by rw [nI_toInt (by omega)]; omega) (by rw [nI_toInt (by omega)]; omega)]
theorem nr_b0 {n : Nat} (h : n < 128) : vp_nar .byte (nI n) = nI n := by
  rw [vp_nar_byte, lg_i2b_small (by rw [nI_toInt (by omega)]; omega) (by rw [nI_toInt (by omega)]; omega)]
theorem nr_s0 {n : Nat} (h : n < 32768) : vp_nar .short (nI n) = nI n := by
  rw [vp_nar_short, lg_i2s_small (by rw [nI_toInt (by omega)]; omega) (by rw [nI_toInt (by omega)]; omega)]
theorem nr_bm : vp_nar .byte (-1) = -1 := by rw [vp_nar_byte]; decide
theorem nr_sm : vp_nar .short (-1) = -1 := by rw [vp_nar_short]; decide
theorem nr_bm' : vp_nar .byte ((-1 : Int32).toInt8.toInt32) = -1 := by rw [pk_vb]; decide
theorem nr_sm' : vp_nar .short ((-1 : Int32).toInt16.toInt32) = -1 := by rw [pk_vs]; decide
theorem nr_z (b : Bool) : narrow .boolean (.int (if b then 1 else 0)) = .int (if b then 1 else 0) := by cases b <;> rfl

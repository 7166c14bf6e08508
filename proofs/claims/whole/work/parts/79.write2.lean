variable {f_saidPlace f_instanceCount f_nodeCount f_equationCount f_stackCount f_wordCount f_depth f_cellCount f_consCount f_closureCount f_stepCount f_runAnswer f_writtenCount : Int32} {a_kinds a_values a_spans a_bounds a_binders a_lengths a_parameterCounts a_typeCodes a_typeLengths a_instanceFunctions a_nodeKinds a_nodeLefts a_nodeRights a_nodeSizes a_equationLefts a_equationRights a_stackLefts a_stackRights a_words a_boundWords a_cellFirsts a_cellSeconds a_closureTokens a_closureWords a_written : Nat → Int32}
variable {yf_place yf_points yf_names yf_textEnd yf_made yf_entry yf_waiting yf_values yf_bound yf_cells yf_conses yf_lams yf_steps yf_atWork yf_end yf_writtenCount : Int32} {ya_kind ya_up ya_turn ya_depth ya_value ya_below ya_length ya_parameters ya_codes ya_codeCount ya_form ya_colour ya_same ya_one ya_two ya_todo ya_numbered ya_text ya_ofFunction ya_codeEnd ya_instance ya_token ya_env ya_tag ya_cellEnv ya_boundNext ya_step ya_boundNumber ya_boundTag ya_headTag ya_tailTag ya_number ya_boundValue ya_head ya_tail ya_written : Nat → Int32}
variable {ln P : Nat → Nat} {kN : Nat → Nat → Nat} {vl : Nat → Nat → Int32} {oc sp bd bi : Nat → Nat → Nat} {cod : Nat → List Nat}
/-- what is to be written: the place of a type, the type; a value (Y's tag and number, X's word), or the rest of a list -/
abbrev ZE := Nat × mt_T × Option (Int32 × Int32 × Int32) × Option Nat
def zx (cm : Nat → Nat) (sl sr : Nat → Int32) : List ZE → Prop
  | [] => True
  | (p, _, some (_, _, x), _) :: st => sl st.length = x ∧ sr st.length = nI (210 + p) ∧ zx cm sl sr st
  | (p, _, none, none) :: st => sl st.length = 0 ∧ sr st.length = (-1) - nI (210 + p) ∧ zx cm sl sr st
  | (p, _, none, some i) :: st => sl st.length = nI (cm i) ∧ sr st.length = (-1) - nI (210 + p) ∧ zx cm sl sr st
def yct : List ZE → Nat
  | [] => 0
  | (_, _, some _, _) :: st => yct st + 1
  | (_, _, none, none) :: st => yct st
  | (_, _, none, some _) :: st => yct st + 1
def zy (tg nu : Nat → Int32) : List ZE → Prop
  | [] => True
  | (_, _, some (t, n, _), _) :: st => tg (yct st) = t ∧ nu (yct st) = n ∧ zy tg nu st
  | (_, _, none, none) :: st => zy tg nu st
  | (_, _, none, some i) :: st => tg (yct st) = 5 ∧ nu (yct st) = nI i ∧ zy tg nu st
def zv (nc : Nat) (ty : Nat → mt_T) (cm : Nat → Nat) (L : List Nat) (tau : Nat → mt_T) : List ZE → Prop
  | [] => True
  | (p, T, some (t, n, x), _) :: st => p < L.length ∧ tau p = T ∧ vv nc ty cm T t n x ∧ zv nc ty cm L tau st
  | (p, T, none, o) :: st => p < L.length ∧ tau p = T ∧ (∀ i, o = some i → i < nc ∧ ∃ b, ty i = .branch 3 T b) ∧ zv nc ty cm L tau st
def zr : List ZE → Nat → Prop
  | [], R => R = 15
  | (_, T, some _, _) :: st, R => ∃ R', zr st R' ∧ R + (mt_enc T).length = R'
  | (_, T, none, _) :: st, R => ∃ R', zr st R' ∧ R = (mt_enc T).length ∧ (mt_enc T).length < R'
def zm : List ZE → Nat
  | [] => 0
  | (_, T, some _, _) :: st => 2 * (mt_enc T).length + zm st
  | (_, _, none, _) :: st => 1 + zm st
def zT : List ZE → Nat
  | [] => 0
  | (_, _, some _, _) :: st => zT st + 1
  | (_, _, none, _) :: st => zT st
theorem zr_len : ∀ st R, zr st R → st.length + R ≤ 15 := by
  intro st
  induction st with
  | nil => intro R h; have : R = 15 := h; simp; omega
  | cons E st ih =>
    intro R h
    obtain ⟨p, T, v, o⟩ := E
    have hne := mt_enc_ne T
    cases v with
    | none =>
      obtain ⟨R', h1, h2, h3⟩ := h
      have := ih R' h1
      simp only [List.length_cons]; omega
    | some v =>
      obtain ⟨R', h1, h2⟩ := h
      have := ih R' h1
      simp only [List.length_cons]; omega
theorem zT_len : ∀ st : List ZE, zT st ≤ st.length ∧ yct st ≤ st.length := by
  intro st
  induction st with
  | nil => exact ⟨Nat.le_refl _, Nat.le_refl _⟩
  | cons E st ih =>
    obtain ⟨p, T, v, o⟩ := E
    cases v with
    | none => cases o <;> simp only [zT, yct, List.length_cons] <;> omega
    | some v => simp only [zT, yct, List.length_cons]; omega
theorem zx_ext {cm : Nat → Nat} {sl sr sl' sr' : Nat → Int32} : ∀ st : List ZE, (∀ j, j < st.length → sl' j = sl j ∧ sr' j = sr j) → zx cm sl sr st → zx cm sl' sr' st := by
  intro st
  induction st with
  | nil => intro _ _; trivial
  | cons E st ih =>
    intro h0 h
    obtain ⟨p, T, v, o⟩ := E
    obtain ⟨e1, e2⟩ := h0 st.length (by simp)
    have h0' : ∀ j, j < st.length → sl' j = sl j ∧ sr' j = sr j := fun j hj => h0 j (by simp; omega)
    cases v with
    | none =>
      cases o with
      | none => obtain ⟨a, b, c⟩ := h; exact ⟨e1.trans a, e2.trans b, ih h0' c⟩
      | some i => obtain ⟨a, b, c⟩ := h; exact ⟨e1.trans a, e2.trans b, ih h0' c⟩
    | some v => obtain ⟨t, n, x⟩ := v; obtain ⟨a, b, c⟩ := h; exact ⟨e1.trans a, e2.trans b, ih h0' c⟩
theorem zy_ext {tg nu tg' nu' : Nat → Int32} : ∀ st : List ZE, (∀ j, j < yct st → tg' j = tg j ∧ nu' j = nu j) → zy tg nu st → zy tg' nu' st := by
  intro st
  induction st with
  | nil => intro _ _; trivial
  | cons E st ih =>
    intro h0 h
    obtain ⟨p, T, v, o⟩ := E
    cases v with
    | none =>
      cases o with
      | none => exact ih h0 h
      | some i =>
        obtain ⟨a, b, c⟩ := h
        obtain ⟨e1, e2⟩ := h0 (yct st) (by simp [yct])
        exact ⟨e1.trans a, e2.trans b, ih (fun j hj => h0 j (by simp [yct]; omega)) c⟩
    | some v =>
      obtain ⟨t, n, x⟩ := v
      obtain ⟨a, b, c⟩ := h
      obtain ⟨e1, e2⟩ := h0 (yct st) (by simp [yct])
      exact ⟨e1.trans a, e2.trans b, ih (fun j hj => h0 j (by simp [yct]; omega)) c⟩
theorem ng_lt {n : Nat} (h : n < 1000000) : (-1 : Int32) - nI n < 0 := by
  rw [Int32.lt_iff_toInt_lt]
  have h1 : ((-1 : Int32) - nI n).toInt = -1 - (n : Int) := by
    rw [Int32.toInt_sub]
    rw [nI_toInt (by omega)]
    rw [show (-1 : Int32).toInt = -1 from rfl]
    exact Int.bmod_eq_of_le (by omega) (by omega)
  rw [h1]
  show (-1 - (n : Int)) < 0
  omega
theorem ng_ng (x : Int32) : (-1 : Int32) - ((-1) - x) = x := by grind
theorem ar_z1 {wc z m mu l : Nat} (hw : wc < 400) (hz : z + 1 ≤ 15) (h : 30 * (400 - wc) + 30 * (16 - (z + 1)) + (2 * l + m) ≤ mu + 1) (hl : 1 ≤ l) : 30 * (400 - (wc + 1)) + 30 * (16 - z) + m ≤ mu := by omega
theorem ar_z2 {wc z m mu a b : Nat} (hz : z + 2 ≤ 15) (h : 30 * (400 - wc) + 30 * (16 - (z + 1)) + (2 * (a + b + 1) + m) ≤ mu + 1) : 30 * (400 - wc) + 30 * (16 - (z + 1 + 1)) + (2 * a + (2 * b + m)) ≤ mu := by omega
theorem ar_z3 {wc z m mu a : Nat} (hw : wc < 400) (hz : z + 1 ≤ 15) (h : 30 * (400 - wc) + 30 * (16 - (z + 1)) + (2 * (a + 1) + m) ≤ mu + 1) (ha : 1 ≤ a) : 30 * (400 - (wc + 1)) + 30 * (16 - z) + (1 + m) ≤ mu := by omega
theorem ar_z4 {wc z m mu : Nat} (h : 30 * (400 - wc) + 30 * (16 - z) + (1 + m) ≤ mu + 1) : 30 * (400 - wc) + 30 * (16 - z) + m ≤ mu := by omega
theorem ar_z5 {wc z m mu a : Nat} (hz : z + 1 ≤ 15) (ha : a ≤ 14) (h : 30 * (400 - wc) + 30 * (16 - z) + (1 + m) ≤ mu + 1) : 30 * (400 - wc) + 30 * (16 - (z + 1)) + (2 * a + (1 + m)) ≤ mu := by omega

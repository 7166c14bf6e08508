theorem sm_mul {g h : Nat → Nat} {a b : Nat} : ∀ n, (∀ j, j < n → a * g j ≤ b * h j) → a * sm g n ≤ b * sm h n := by
  intro n
  induction n with
  | zero => intro _; simp [sm]
  | succ n ih =>
    intro hj
    have h1 := ih (fun j hj' => hj j (by omega))
    have h2 := hj n (by omega)
    simp only [sm, Nat.mul_add]
    omega
theorem sm_mono {g : Nat → Nat} {a : Nat} : ∀ b, a ≤ b → sm g a ≤ sm g b := by
  intro b
  induction b with
  | zero => intro h; have : a = 0 := by omega
            subst this; exact Nat.le_refl _
  | succ b ih =>
    intro h
    by_cases e : a = b + 1
    · rw [e]; exact Nat.le_refl _
    · have := ih (by omega)
      simp only [sm]; omega
/-- operands in all: one less than tokens -/
theorem bw_sum {n : Nat} {oc A : Nat → Nat} (h0 : A 0 = 1) (hA : ∀ t, t < n → A (t + 1) + 1 = A t + oc t) : ∀ t, t ≤ n → sm oc t + 1 = A t + t := by
  intro t
  induction t with
  | zero => intro _; rw [h0]; rfl
  | succ t ih =>
    intro ht
    have h1 := ih (by omega)
    have h2 := hA t (by omega)
    simp only [sm]
    omega

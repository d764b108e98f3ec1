/-! copying, one more -/
theorem q_cpy_0 {α : Type} (f g : Nat → α) (sp dp : Nat) : va_cpy f g sp dp 0 = g := by
  funext j
  unfold va_cpy
  rw [if_neg (by omega)]
theorem q_cpy_step {f g : Nat → Int64} {sp dp n k1 k2 : Nat} (e1 : k1 = dp + n) (e2 : k2 = sp + n) : vp_updL (va_cpy f g sp dp n) k1 (f k2) = va_cpy f g sp dp (n + 1) := by
  subst e1 e2
  funext j
  unfold vp_updL va_cpy
  by_cases h : j = dp + n
  · rw [if_pos h, if_pos (by omega), h]
    congr 1
    omega
  · rw [if_neg h]
    by_cases h2 : dp ≤ j ∧ j < dp + n
    · rw [if_pos h2, if_pos (by omega)]
    · rw [if_neg h2, if_neg (by omega)]
theorem q_cpyi_step {f g : Nat → Int32} {sp dp n k1 k2 : Nat} (e1 : k1 = dp + n) (e2 : k2 = sp + n) : upd (va_cpy f g sp dp n) k1 (f k2) = va_cpy f g sp dp (n + 1) := by
  subst e1 e2
  funext j
  unfold upd va_cpy
  by_cases h : j = dp + n
  · rw [if_pos h, if_pos (by omega), h]
    congr 1
    omega
  · rw [if_neg h]
    by_cases h2 : dp ≤ j ∧ j < dp + n
    · rw [if_pos h2, if_pos (by omega)]
    · rw [if_neg h2, if_neg (by omega)]

/-! WHAT IS TAKEN STAYS TAKEN -/
theorem m_op_62 {pn : Int → Int} {op n : Int} {S : m_T} {o : Int × m_T} (h9 : op ≠ 9) (ho : m_op pn op n S = some o) : o.2 6 2 = S 6 2 := by
  have hin := m_op_in ho
  have ac : ∀ {ch : Bool} {g i row : Int} {o : Int × m_T}, (g = 0 ∨ g = 1) → m_a1 ch g i row S = some o → o.2 6 2 = S 6 2 := fun {ch g i row o} hg q => by
    have a2 : ∀ (X : m_T) (a : Int), m_a2 g a X 6 2 = X 6 2 := fun X a => by
      rcases hg with rfl | rfl
      · rw [m_a2_0]; simp (disch := decide) only [x_up_p, x_up_o]
      · rw [m_a2_1]; simp (disch := decide) only [x_up_p, x_up_o]
    unfold m_a1 at q
    split at q
    · split at q
      · split at q
        · split at q
          · cases q; dsimp only; rw [a2, x_up_o (by decide)]
          · cases q
        · cases q; dsimp only; rw [x_up_o (by decide)]
      · cases q
    · split at q
      · cases q; dsimp only; rw [a2]
      · cases q
  rcases hin with e | e | e | e | e | e | e | e | e | e | e | e | e | e | e | e | e
  · subst e; rw [m_op_0] at ho; split at ho <;> cases ho <;> simp (disch := decide) only [m_pu, x_up_p, x_up_o]
  · subst e; rw [m_op_1] at ho; split at ho
    · cases ho; rfl
    · split at ho <;> cases ho; simp (disch := decide) only [m_pu, x_up_p, x_up_o]
  · subst e; rw [m_op_2] at ho; split at ho <;> cases ho; simp (disch := decide) only [x_up_p, x_up_o]
  · subst e; rw [m_op_3] at ho; split at ho <;> cases ho; simp (disch := decide) only [x_up_p, x_up_o]
  · rw [m_op_4 e] at ho; unfold m_ar at ho; split at ho
    · split at ho <;> cases ho <;> simp (disch := decide) only [x_up_p, x_up_o]
    · cases ho
  · subst e; rw [m_op_7] at ho; split at ho <;> cases ho; simp (disch := decide) only [x_up_p, x_up_o]
  · subst e; rw [m_op_8] at ho; split at ho <;> cases ho; simp (disch := decide) only [x_up_p, x_up_o]
  · exact absurd e h9
  · subst e; rw [m_op_10] at ho; split at ho
    · exact ac (.inl rfl) ho
    · cases ho
  · subst e; rw [m_op_11] at ho; split at ho
    · exact ac (.inl rfl) ho
    · cases ho
  · subst e; rw [m_op_12] at ho; split at ho
    · exact ac (.inr rfl) ho
    · cases ho
  · subst e; rw [m_op_13] at ho; split at ho
    · exact ac (.inr rfl) ho
    · cases ho
  · subst e; rw [m_op_14] at ho; split at ho
    · cases ho
      dsimp only
      rw [x_up_o (by decide)]
      split
      · rw [x_up_p (by decide)]
      · rfl
    · cases ho
  · subst e; rw [m_op_15] at ho; split at ho
    · cases ho; rfl
    · split at ho <;> cases ho; simp (disch := decide) only [m_cl, x_up_p, x_up_o, x_fill_p, x_cpy_p]
  · subst e; rw [m_op_16] at ho; cases ho; simp (disch := decide) only [x_up_p, x_up_o]
  · subst e; rw [m_op_22] at ho; cases ho; simp (disch := decide) only [x_up_p, x_up_o]
  · obtain ⟨r, rfl⟩ : ∃ r, op = 17 + r := ⟨op - 17, by omega⟩
    rw [m_op_17 (by omega)] at ho; split at ho
    · cases ho
      dsimp only
      rw [x_up_o (by decide)]
      split
      · rfl
      · rw [x_up_p (by decide)]
    · cases ho
theorem m_op_9t {pn : Int → Int} {n : Int} {S : m_T} {o : Int × m_T} (ho : m_op pn 9 n S = some o) : S 6 2 ≤ o.2 6 2 := by
  rw [m_op_9] at ho
  split at ho
  · split at ho
    · cases ho; exact Int.le_refl _
    · split at ho
      · cases ho; exact Int.le_refl _
      · cases ho
        rename_i c1 c2 c3
        have e : m_nr S (S 0 (S 6 0 - 1)) 6 2 = S 6 2 + 1 + S 0 (S 6 0 - 1) := x_up_s rfl
        dsimp only
        rw [e]
        omega
  · cases ho
section
variable {cd : Int → Int → Option (Int × Int)} {pn : Int → Int}
theorem m_st_62 {S : m_T} {o : Int × m_T} (h : m_st cd pn S = some o) : S 6 2 ≤ o.2 6 2 := by
  obtain ⟨op, n, -, -, ho⟩ := m_st_inv h
  have e : m_nx S 6 2 = S 6 2 := m_nx_6 (by decide)
  by_cases q : op = 9
  · subst q
    have := m_op_9t ho
    omega
  · have := m_op_62 q ho
    omega
theorem m_E_62 : ∀ (k : Nat) (S : m_T), S 6 2 ≤ (m_E cd pn k S).2 6 2
  | 0, _ => Int.le_refl _
  | k + 1, S => by
    unfold m_E
    split
    · exact Int.le_refl _
    · rename_i o h
      have h1 := m_st_62 h
      split
      · have := m_E_62 k o.2
        omega
      · exact h1
end

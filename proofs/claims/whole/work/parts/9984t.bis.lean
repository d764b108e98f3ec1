/-! TWO MACHINES that differ where nobody looks; numbers stay small -/
def bS (S V : m_T) : Prop := S 6 = V 6 ∧ (∀ j, 0 ≤ j → j < S 6 0 → V 0 j = S 0 j) ∧ (∀ j, 0 ≤ j → j < S 6 1 → V 1 j = S 1 j ∧ V 2 j = S 2 j) ∧ (∀ j, S 7 j = 1 → V 7 j = 1 ∧ V 3 j = S 3 j) ∧ (∀ j, 0 ≤ j → j < S 6 2 → V 4 j = S 4 j) ∧ ∀ j, 0 ≤ j → j < S 6 3 → j < 100 → V 5 j = S 5 j
section
variable {S V : m_T} {j v z : Int}
theorem x_up_cc {M M' : Nat → Int → Int} {q p : Nat} {j v i : Int} (h : M' p i = M p i) : x_up M' q j v p i = x_up M q j v p i := by
  unfold x_up
  by_cases e : p = q ∧ i = j
  · rw [if_pos e, if_pos e]
  · rw [if_neg e, if_neg e, h]
theorem bS_w {q : Nat} (hq : q ≠ 6 ∧ q ≠ 7) (h : bS S V) : bS (x_up S q j v) (x_up V q j v) := by
  obtain ⟨h1, h2, h3, h4, h5, h6⟩ := h
  have e6 : x_up S q j v 6 = S 6 := x_up_ne (by omega)
  have e6' : x_up V q j v 6 = V 6 := x_up_ne (by omega)
  unfold bS
  rw [e6, e6', x_up_ne (p := 7) (by omega), x_up_ne (p := 7) (by omega)]
  exact ⟨h1, fun i a b => x_up_cc (h2 i a b), fun i a b => ⟨x_up_cc (h3 i a b).1, x_up_cc (h3 i a b).2⟩, fun i a => ⟨(h4 i a).1, x_up_cc (h4 i a).2⟩, fun i a b => x_up_cc (h5 i a b), fun i a b c => x_up_cc (h6 i a b c)⟩
/-- a number that nobody counts by -/
theorem bS_n {k : Int} (hk : k ≠ 0 ∧ k ≠ 1 ∧ k ≠ 2 ∧ k ≠ 3) (h : bS S V) : bS (x_up S 6 k v) (x_up V 6 k v) := by
  obtain ⟨h1, h2, h3, h4, h5, h6⟩ := h
  refine ⟨by rw [x_up_t, x_up_t, h1], ?_, ?_, ?_, ?_, ?_⟩
  · rw [x_up_o (by omega)]; exact fun i a b => by rw [x_up_p (by decide), x_up_p (by decide)]; exact h2 i a b
  · rw [x_up_o (by omega)]; exact fun i a b => by rw [x_up_p (by decide), x_up_p (by decide), x_up_p (by decide), x_up_p (by decide)]; exact h3 i a b
  · exact fun i a => by rw [x_up_p (by decide)] at a; rw [x_up_p (by decide), x_up_p (by decide), x_up_p (by decide)]; exact h4 i a
  · rw [x_up_o (by omega)]; exact fun i a b => by rw [x_up_p (by decide), x_up_p (by decide)]; exact h5 i a b
  · rw [x_up_o (by omega)]; exact fun i a b c => by rw [x_up_p (by decide), x_up_p (by decide)]; exact h6 i a b c
/-- counts: what is new must be alike -/
theorem bS_0 (h : bS S V) (hn : ∀ i, 0 ≤ i → S 6 0 ≤ i → i < z → V 0 i = S 0 i) : bS (x_up S 6 0 z) (x_up V 6 0 z) := by
  obtain ⟨h1, h2, h3, h4, h5, h6⟩ := h
  refine ⟨by rw [x_up_t, x_up_t, h1], ?_, ?_, ?_, ?_, ?_⟩
  · rw [x_up_s rfl]; exact fun i a b => by
      rw [x_up_p (by decide), x_up_p (by decide)]
      by_cases e : i < S 6 0
      · exact h2 i a e
      · exact hn i a (by omega) b
  · rw [x_up_o (by decide)]; exact fun i a b => by rw [x_up_p (by decide), x_up_p (by decide), x_up_p (by decide), x_up_p (by decide)]; exact h3 i a b
  · exact fun i a => by rw [x_up_p (by decide)] at a; rw [x_up_p (by decide), x_up_p (by decide), x_up_p (by decide)]; exact h4 i a
  · rw [x_up_o (by decide)]; exact fun i a b => by rw [x_up_p (by decide), x_up_p (by decide)]; exact h5 i a b
  · rw [x_up_o (by decide)]; exact fun i a b c => by rw [x_up_p (by decide), x_up_p (by decide)]; exact h6 i a b c
theorem bS_1 (h : bS S V) (hn : ∀ i, 0 ≤ i → S 6 1 ≤ i → i < z → V 1 i = S 1 i ∧ V 2 i = S 2 i) : bS (x_up S 6 1 z) (x_up V 6 1 z) := by
  obtain ⟨h1, h2, h3, h4, h5, h6⟩ := h
  refine ⟨by rw [x_up_t, x_up_t, h1], ?_, ?_, ?_, ?_, ?_⟩
  · rw [x_up_o (by decide)]; exact fun i a b => by rw [x_up_p (by decide), x_up_p (by decide)]; exact h2 i a b
  · rw [x_up_s rfl]; exact fun i a b => by
      rw [x_up_p (by decide), x_up_p (by decide), x_up_p (by decide), x_up_p (by decide)]
      by_cases e : i < S 6 1
      · exact h3 i a e
      · exact hn i a (by omega) b
  · exact fun i a => by rw [x_up_p (by decide)] at a; rw [x_up_p (by decide), x_up_p (by decide), x_up_p (by decide)]; exact h4 i a
  · rw [x_up_o (by decide)]; exact fun i a b => by rw [x_up_p (by decide), x_up_p (by decide)]; exact h5 i a b
  · rw [x_up_o (by decide)]; exact fun i a b c => by rw [x_up_p (by decide), x_up_p (by decide)]; exact h6 i a b c
theorem bS_2 (h : bS S V) (hn : ∀ i, 0 ≤ i → S 6 2 ≤ i → i < z → V 4 i = S 4 i) : bS (x_up S 6 2 z) (x_up V 6 2 z) := by
  obtain ⟨h1, h2, h3, h4, h5, h6⟩ := h
  refine ⟨by rw [x_up_t, x_up_t, h1], ?_, ?_, ?_, ?_, ?_⟩
  · rw [x_up_o (by decide)]; exact fun i a b => by rw [x_up_p (by decide), x_up_p (by decide)]; exact h2 i a b
  · rw [x_up_o (by decide)]; exact fun i a b => by rw [x_up_p (by decide), x_up_p (by decide), x_up_p (by decide), x_up_p (by decide)]; exact h3 i a b
  · exact fun i a => by rw [x_up_p (by decide)] at a; rw [x_up_p (by decide), x_up_p (by decide), x_up_p (by decide)]; exact h4 i a
  · rw [x_up_s rfl]; exact fun i a b => by
      rw [x_up_p (by decide), x_up_p (by decide)]
      by_cases e : i < S 6 2
      · exact h5 i a e
      · exact hn i a (by omega) b
  · rw [x_up_o (by decide)]; exact fun i a b c => by rw [x_up_p (by decide), x_up_p (by decide)]; exact h6 i a b c
theorem bS_3 (h : bS S V) (hn : ∀ i, 0 ≤ i → S 6 3 ≤ i → i < z → i < 100 → V 5 i = S 5 i) : bS (x_up S 6 3 z) (x_up V 6 3 z) := by
  obtain ⟨h1, h2, h3, h4, h5, h6⟩ := h
  refine ⟨by rw [x_up_t, x_up_t, h1], ?_, ?_, ?_, ?_, ?_⟩
  · rw [x_up_o (by decide)]; exact fun i a b => by rw [x_up_p (by decide), x_up_p (by decide)]; exact h2 i a b
  · rw [x_up_o (by decide)]; exact fun i a b => by rw [x_up_p (by decide), x_up_p (by decide), x_up_p (by decide), x_up_p (by decide)]; exact h3 i a b
  · exact fun i a => by rw [x_up_p (by decide)] at a; rw [x_up_p (by decide), x_up_p (by decide), x_up_p (by decide)]; exact h4 i a
  · rw [x_up_o (by decide)]; exact fun i a b => by rw [x_up_p (by decide), x_up_p (by decide)]; exact h5 i a b
  · rw [x_up_s rfl]; exact fun i a b c => by
      rw [x_up_p (by decide), x_up_p (by decide)]
      by_cases e : i < S 6 3
      · exact h6 i a e c
      · exact hn i a (by omega) b c
/-- a local is given a value -/
theorem bS_7 (h : bS S V) : bS (x_up (x_up S 3 j v) 7 j 1) (x_up (x_up V 3 j v) 7 j 1) := by
  have h' := bS_w (q := 3) (j := j) (v := v) (by decide) h
  obtain ⟨h1, h2, h3, h4, h5, h6⟩ := h'
  unfold bS
  rw [x_up_ne (p := 6) (by decide), x_up_ne (p := 6) (by decide)]
  refine ⟨h1, fun i a b => by rw [x_up_p (by decide), x_up_p (by decide)]; exact h2 i a b, fun i a b => by rw [x_up_p (by decide), x_up_p (by decide), x_up_p (by decide), x_up_p (by decide)]; exact h3 i a b, fun i a => ?_, fun i a b => by rw [x_up_p (by decide), x_up_p (by decide)]; exact h5 i a b, fun i a b c => by rw [x_up_p (by decide), x_up_p (by decide)]; exact h6 i a b c⟩
  by_cases e : i = j
  · subst e
    exact ⟨x_up_s rfl, by simp (disch := first | rfl | decide) only [x_up_p, x_up_s]⟩
  · rw [x_up_o e] at a
    have := h4 i a
    refine ⟨by rw [x_up_o e]; exact this.1, ?_⟩
    rw [x_up_p (show (3 : Nat) ≠ 7 by decide), x_up_p (show (3 : Nat) ≠ 7 by decide)]
    exact this.2
theorem bS_a2 {g a : Int} (hg : g = 0 ∨ g = 1) (h : bS S V) (hh : 1 + g < S 6 0) (ha : 0 ≤ a ∧ a < S 6 2) : bS (m_a2 g a S) (m_a2 g a V) := by
  obtain ⟨h1, h2, h3, h4, h5, h6⟩ := id h
  unfold m_a2
  rw [← h1, h2 (S 6 0 - 1) (by omega) (by omega), h5 a ha.1 ha.2]
  have n5 := bS_n (k := 5) (v := S 6 5 + 1) (by decide) h
  rcases hg with rfl | rfl
  · rw [if_neg (by decide), if_neg (by decide), if_neg (by decide)]
    exact bS_0 (bS_w (by decide) n5) (fun i a b c => by rw [x_up_p (by decide), x_up_o (by decide)] at b; omega)
  · rw [if_pos rfl, if_pos rfl, if_pos rfl]
    exact bS_0 (bS_w (by decide) (bS_w (by decide) n5)) (fun i a b c => by rw [x_up_p (by decide), x_up_p (by decide), x_up_o (by decide)] at b; omega)
theorem bS_a1 {g a i row : Int} {ch : Bool} {o : Int × m_T} (hg : g = 0 ∨ g = 1) (h : bS S V) (hh : 1 + g < S 6 0) (ho : m_a1 ch g i row S = some o) : ∃ o', m_a1 ch g i row V = some o' ∧ o'.1 = o.1 ∧ bS o.2 o'.2 := by
  obtain ⟨h1, h2, h3, h4, h5, h6⟩ := id h
  have n4 := bS_n (k := 4) (v := S 6 4 + 1) (by decide) h
  unfold m_a1 at ho ⊢
  rw [← h1]
  split at ho
  · rename_i q
    rw [if_pos q]
    split at ho
    · rename_i q1
      rw [if_pos q1, h5 row q1.1 q1.2]
      split at ho
      · rename_i q2
        rw [if_pos q2]
        split at ho
        · rename_i q3
          rw [if_pos q3]
          cases ho
          exact ⟨_, rfl, rfl, bS_a2 hg n4 (by rw [x_up_o (by decide)]; exact hh) (by rw [x_up_o (by decide)]; omega)⟩
        · cases ho
      · rename_i q2
        rw [if_neg q2]
        cases ho
        exact ⟨_, rfl, rfl, n4⟩
    · cases ho
  · rename_i q
    rw [if_neg q]
    split at ho
    · rename_i q1
      rw [if_pos q1]
      cases ho
      exact ⟨_, rfl, rfl, bS_a2 hg h hh q1⟩
    · cases ho
theorem bS_cl {n k : Int} (h : bS S V) (hk : 0 ≤ k ∧ k ≤ S 6 0) (hc : 1 ≤ S 6 1) : bS (m_cl S n k) (m_cl V n k) := by
  obtain ⟨h1, h2, h3, h4, h5, h6⟩ := id h
  have b1 : bS (x_fill (x_cpy S 0 3 (S 6 0 - k) (16 * S 6 1) k) 7 (16 * S 6 1) k 1) (x_fill (x_cpy V 0 3 (S 6 0 - k) (16 * S 6 1) k) 7 (16 * S 6 1) k 1) := by
    unfold bS
    rw [x_fill_ne (p := 6) (by decide), x_fill_ne (p := 6) (by decide), x_cpy_ne (p := 6) (by decide), x_cpy_ne (p := 6) (by decide), x_fill_ne (p := 0) (by decide), x_fill_ne (p := 0) (by decide), x_cpy_ne (p := 0) (by decide), x_cpy_ne (p := 0) (by decide), x_fill_ne (p := 1) (by decide), x_fill_ne (p := 1) (by decide), x_cpy_ne (p := 1) (by decide), x_cpy_ne (p := 1) (by decide), x_fill_ne (p := 2) (by decide), x_fill_ne (p := 2) (by decide), x_cpy_ne (p := 2) (by decide), x_cpy_ne (p := 2) (by decide), x_fill_ne (p := 4) (by decide), x_fill_ne (p := 4) (by decide), x_cpy_ne (p := 4) (by decide), x_cpy_ne (p := 4) (by decide), x_fill_ne (p := 5) (by decide), x_fill_ne (p := 5) (by decide), x_cpy_ne (p := 5) (by decide), x_cpy_ne (p := 5) (by decide), x_fill_ne (p := 3) (by decide), x_fill_ne (p := 3) (by decide)]
    refine ⟨h1, h2, h3, fun i a => ?_, h5, h6⟩
    by_cases e : 16 * S 6 1 ≤ i ∧ i < 16 * S 6 1 + k
    · rw [x_fill_i e, x_cpy_i e, x_cpy_i e]
      exact ⟨rfl, h2 _ (by omega) (by omega)⟩
    · rw [x_fill_o (by omega), x_cpy_p (by decide)] at a
      rw [x_fill_o (by omega), x_cpy_p (by decide), x_cpy_o (by omega), x_cpy_o (by omega)]
      exact h4 i a
  have c6 : ∀ X : m_T, x_fill (x_cpy X 0 3 (S 6 0 - k) (16 * S 6 1) k) 7 (16 * S 6 1) k 1 6 = X 6 := fun X => by rw [x_fill_ne (by decide), x_cpy_ne (by decide)]
  unfold m_cl
  rw [← h1]
  have b2 := bS_w (q := 2) (j := S 6 1) (v := 0) (by decide) (bS_w (q := 1) (j := S 6 1) (v := n) (by decide) b1)
  have b3 := bS_1 (z := S 6 1 + 1) b2 (fun i a b c => by
    rw [x_up_p (by decide), x_up_p (by decide), c6] at b
    have e : i = S 6 1 := by omega
    rw [e]
    exact ⟨by simp (disch := first | rfl | decide) only [x_up_p, x_up_s], by simp (disch := first | rfl | decide) only [x_up_s]⟩)
  have b4 := bS_0 (z := S 6 0 - k) b3 (fun i a b c => by
    rw [x_up_o (by decide), x_up_p (by decide), x_up_p (by decide), c6] at b
    omega)
  exact bS_n (by decide) b4
/-- a step on both -/
theorem bS_op {pn : Int → Int} {op n : Int} {o : Int × m_T} (h : bS S V) (hh : 0 ≤ S 6 0) (hc : 1 ≤ S 6 1) (ht : 0 ≤ S 6 2) (ho : m_op pn op n S = some o) : ∃ o', m_op pn op n V = some o' ∧ o'.1 = o.1 ∧ bS o.2 o'.2 := by
  have hin := m_op_in ho
  obtain ⟨h1, h2, h3, h4, h5, h6⟩ := id h
  rcases hin with e | e | e | e | e | e | e | e | e | e | e | e | e | e | e | e | e
  · subst e
    rw [m_op_0] at ho ⊢
    rw [← h1]
    split at ho
    · rename_i q
      rw [if_pos q]
      cases ho
      exact ⟨_, rfl, rfl, h⟩
    · rename_i q
      rw [if_neg q]
      cases ho
      refine ⟨_, rfl, rfl, ?_⟩
      unfold m_pu
      rw [← h1]
      exact bS_0 (bS_w (by decide) h) (fun i a b c => by
        rw [x_up_p (by decide)] at b
        rw [x_up_s (by omega), x_up_s (by omega)])
  · subst e
    rw [m_op_1] at ho ⊢
    rw [← h1]
    split at ho
    · rename_i q
      rw [if_pos q]
      cases ho
      exact ⟨_, rfl, rfl, h⟩
    · rename_i q
      rw [if_neg q]
      split at ho
      · rename_i q2
        have z := h4 _ q2.2
        rw [if_pos ⟨q2.1, z.1⟩]
        cases ho
        refine ⟨_, rfl, rfl, ?_⟩
        unfold m_pu
        rw [← h1, z.2]
        exact bS_0 (bS_w (by decide) h) (fun i a b c => by
          rw [x_up_p (by decide)] at b
          rw [x_up_s (by omega), x_up_s (by omega)])
      · cases ho
  · subst e
    rw [m_op_2] at ho ⊢
    rw [← h1]
    split at ho
    · rename_i q
      rw [if_pos q]
      cases ho
      refine ⟨_, rfl, rfl, ?_⟩
      rw [h2 (S 6 0 - 1) (by omega) (by omega)]
      exact bS_7 (bS_0 h (fun i a b c => by omega))
    · cases ho
  · subst e
    rw [m_op_3] at ho ⊢
    rw [← h1]
    split at ho
    · rename_i q
      rw [if_pos q]
      cases ho
      exact ⟨_, rfl, rfl, bS_0 h (fun i a b c => by omega)⟩
    · cases ho
  · rw [m_op_4 e] at ho ⊢
    rw [← h1]
    split at ho
    · rename_i q
      rw [if_pos q]
      unfold m_ar at ho ⊢
      rw [← h1, h2 (S 6 0 - 1) (by omega) (by omega), h2 (S 6 0 - 2) (by omega) (by omega)]
      split at ho
      · rename_i q2
        rw [if_pos q2]
        cases ho
        exact ⟨_, rfl, rfl, bS_0 (bS_w (by decide) h) (fun i a b c => by rw [x_up_p (by decide)] at b; omega)⟩
      · rename_i q2
        rw [if_neg q2]
        cases ho
        exact ⟨_, rfl, rfl, h⟩
    · cases ho
  · subst e
    rw [m_op_7] at ho ⊢
    rw [← h1]
    split at ho
    · rename_i q
      rw [if_pos q, h2 (S 6 0 - 1) (by omega) (by omega)]
      cases ho
      exact ⟨_, rfl, rfl, bS_w (by decide) h⟩
    · cases ho
  · subst e
    rw [m_op_8] at ho ⊢
    rw [← h1]
    split at ho
    · rename_i q
      have z := h2 (S 6 0 - 1) (by omega) (by omega)
      rw [z, if_pos q, h5 _ q.2.1 q.2.2]
      cases ho
      exact ⟨_, rfl, rfl, bS_w (by decide) h⟩
    · cases ho
  · subst e
    rw [m_op_9] at ho ⊢
    rw [← h1]
    split at ho
    · rename_i q
      have z := h2 (S 6 0 - 1) (by omega) (by omega)
      rw [if_pos q, z]
      split at ho
      · rename_i q2
        rw [if_pos q2]
        cases ho
        exact ⟨_, rfl, rfl, h⟩
      · rename_i q2
        rw [if_neg q2]
        split at ho
        · rename_i q3
          rw [if_pos q3]
          cases ho
          exact ⟨_, rfl, rfl, h⟩
        · rename_i q3
          rw [if_neg q3]
          cases ho
          refine ⟨_, rfl, rfl, ?_⟩
          unfold m_nr
          rw [← h1]
          have hf : ∀ (a b : Int) (X Y : m_T), bS X Y → bS (x_fill X 4 a b 0) (x_fill Y 4 a b 0) := fun a b X Y hb => by
            obtain ⟨g1, g2, g3, g4, g5, g6⟩ := hb
            unfold bS
            rw [x_fill_ne (p := 6) (by decide), x_fill_ne (p := 6) (by decide), x_fill_ne (p := 7) (by decide), x_fill_ne (p := 7) (by decide), x_fill_ne (p := 0) (by decide), x_fill_ne (p := 0) (by decide), x_fill_ne (p := 1) (by decide), x_fill_ne (p := 1) (by decide), x_fill_ne (p := 2) (by decide), x_fill_ne (p := 2) (by decide), x_fill_ne (p := 3) (by decide), x_fill_ne (p := 3) (by decide), x_fill_ne (p := 5) (by decide), x_fill_ne (p := 5) (by decide)]
            refine ⟨g1, g2, g3, g4, fun i i0 i1 => ?_, g6⟩
            by_cases e : a ≤ i ∧ i < a + b
            · rw [x_fill_i e, x_fill_i e]
            · rw [x_fill_o (by omega), x_fill_o (by omega)]
              exact g5 i i0 i1
          refine bS_2 (bS_w (by decide) (hf _ _ _ _ (bS_w (by decide) h))) (fun i a b c => ?_)
          rw [x_up_p (by decide), x_fill_p (by decide), x_up_p (by decide)] at b
          rw [x_up_p (by decide), x_up_p (by decide)]
          by_cases e : i = S 6 2
          · rw [x_fill_o (by omega), x_fill_o (by omega), x_up_s e, x_up_s e]
          · rw [x_fill_i (by omega), x_fill_i (by omega)]
    · cases ho
  · subst e
    rw [m_op_10] at ho ⊢
    rw [← h1]
    split at ho
    · rename_i q
      rw [if_pos q, h2 (S 6 0 - 1) (by omega) (by omega), h2 (S 6 0 - 2) (by omega) (by omega)]
      exact bS_a1 (a := 0) (.inl rfl) h (by omega) ho
    · cases ho
  · subst e
    rw [m_op_11] at ho ⊢
    rw [← h1]
    split at ho
    · rename_i q
      rw [if_pos q, h2 (S 6 0 - 1) (by omega) (by omega), h2 (S 6 0 - 2) (by omega) (by omega)]
      exact bS_a1 (a := 0) (.inl rfl) h (by omega) ho
    · cases ho
  · subst e
    rw [m_op_12] at ho ⊢
    rw [← h1]
    split at ho
    · rename_i q
      rw [if_pos q, h2 (S 6 0 - 2) (by omega) (by omega), h2 (S 6 0 - 3) (by omega) (by omega)]
      exact bS_a1 (a := 0) (.inr rfl) h (by omega) ho
    · cases ho
  · subst e
    rw [m_op_13] at ho ⊢
    rw [← h1]
    split at ho
    · rename_i q
      rw [if_pos q, h2 (S 6 0 - 2) (by omega) (by omega), h2 (S 6 0 - 3) (by omega) (by omega)]
      exact bS_a1 (a := 0) (.inr rfl) h (by omega) ho
    · cases ho
  · subst e
    rw [m_op_14] at ho ⊢
    rw [← h1]
    split at ho
    · rename_i q
      have z := h2 (S 6 0 - 1) (by omega) (by omega)
      rw [if_pos q, z]
      cases ho
      refine ⟨_, rfl, rfl, ?_⟩
      by_cases q2 : S 6 3 < 100
      · rw [if_pos q2, if_pos q2]
        exact bS_3 (bS_w (by decide) h) (fun i a b c e' => by
          rw [x_up_p (by decide)] at b
          rw [x_up_s (by omega), x_up_s (by omega)])
      · rw [if_neg q2, if_neg q2]
        exact bS_3 h (fun i a b c e' => by omega)
    · cases ho
  · subst e
    rw [m_op_15] at ho ⊢
    rw [← h1]
    split at ho
    · rename_i q
      rw [if_pos q]
      cases ho
      exact ⟨_, rfl, rfl, h⟩
    · rename_i q
      rw [if_neg q]
      split at ho
      · rename_i q2
        rw [if_pos q2]
        cases ho
        refine ⟨_, rfl, rfl, ?_⟩
        exact bS_cl h ⟨q2.2.2.1, q2.2.2.2.2⟩ hc
      · cases ho
  · subst e
    rw [m_op_16] at ho ⊢
    rw [← h1]
    cases ho
    exact ⟨_, rfl, rfl, bS_w (by decide) h⟩
  · subst e
    rw [m_op_22] at ho ⊢
    rw [← h1]
    cases ho
    exact ⟨_, rfl, rfl, bS_1 h (fun i a b c => by omega)⟩
  · obtain ⟨r, rfl⟩ : ∃ r, op = 17 + r := ⟨op - 17, by omega⟩
    rw [m_op_17 (by omega)] at ho ⊢
    rw [← h1]
    split at ho
    · rename_i q
      rw [if_pos q, h2 (S 6 0 - 1) (by omega) (by omega), h2 (S 6 0 - 2) (by omega) (by omega)]
      cases ho
      refine ⟨_, rfl, rfl, ?_⟩
      by_cases q2 : m_hb r (S 0 (S 6 0 - 2)) (S 0 (S 6 0 - 1)) = true
      · rw [if_pos q2, if_pos q2]
        exact bS_0 h (fun i a b c => by omega)
      · rw [if_neg q2, if_neg q2]
        exact bS_0 (bS_w (by decide) h) (fun i a b c => by rw [x_up_p (by decide)] at b; omega)
    · cases ho
theorem bS_nx (h : bS S V) (hc : 1 ≤ S 6 1) : bS (m_nx S) (m_nx V) := by
  obtain ⟨h1, h2, h3, h4, h5, h6⟩ := id h
  unfold m_nx
  rw [← h1, (h3 (S 6 1 - 1) (by omega) (by omega)).2]
  exact bS_w (by decide) (bS_n (by decide) h)
theorem bS_step {cd : Int → Int → Option (Int × Int)} {pn : Int → Int} {o : Int × m_T} (h : bS S V) (ht : 0 ≤ S 6 2) (ho : m_st cd pn S = some o) : ∃ o', m_st cd pn V = some o' ∧ o'.1 = o.1 ∧ bS o.2 o'.2 := by
  obtain ⟨op, n, ⟨g1, g2⟩, hcd, hop⟩ := m_st_inv ho
  obtain ⟨h1, h2, h3, h4, h5, h6⟩ := id h
  obtain ⟨o', q1, q2, q3⟩ := bS_op (bS_nx h g1.1) (by rw [m_nx_6 (by decide)]; exact g2.1) (by rw [m_nx_6 (by decide)]; exact g1.1) (by rw [m_nx_6 (by decide)]; exact ht) hop
  refine ⟨o', ?_, q2, q3⟩
  have z := h3 (S 6 1 - 1) (by omega) (by omega)
  unfold m_st
  rw [← h1, if_pos (by omega), z.1, z.2, hcd]
  exact q1
/-- numbers stay small -/
theorem m_B_up {q : Nat} (hq : q = 1 ∨ q = 2 ∨ q = 5) (h : m_B S) : m_B (x_up S q j v) := by
  unfold m_B at h ⊢
  rw [x_up_ne (p := 6) (by omega), x_up_ne (p := 0) (by omega), x_up_ne (p := 7) (by omega), x_up_ne (p := 3) (by omega), x_up_ne (p := 4) (by omega)]
  exact h
theorem m_B_0 (hv : i_num v) (h : m_B S) : m_B (x_up S 0 j v) := by
  unfold m_B at h ⊢
  rw [x_up_ne (p := 6) (by decide), x_up_ne (p := 7) (by decide), x_up_ne (p := 3) (by decide), x_up_ne (p := 4) (by decide)]
  refine ⟨fun i a b => ?_, h.2⟩
  by_cases e : i = j
  · rw [x_up_s e]; exact hv
  · rw [x_up_o e]; exact h.1 i a b
theorem m_B_4 (hv : i_num v) (h : m_B S) : m_B (x_up S 4 j v) := by
  unfold m_B at h ⊢
  rw [x_up_ne (p := 6) (by decide), x_up_ne (p := 7) (by decide), x_up_ne (p := 3) (by decide), x_up_ne (p := 0) (by decide)]
  refine ⟨h.1, h.2.1, fun i a b => ?_, h.2.2.2⟩
  by_cases e : i = j
  · rw [x_up_s e]; exact hv
  · rw [x_up_o e]; exact h.2.2.1 i a b
theorem m_B_n {k : Int} (h : m_B S) (hk : (k = 4 ∧ 0 ≤ v ∧ v ≤ S 6 7) ∨ (k = 5 ∧ 0 ≤ v ∧ v ≤ S 6 7) ∨ (k = 3 ∧ 0 ≤ v ∧ v ≤ S 6 7) ∨ (k = 6 ∧ 0 ≤ v ∧ v ≤ 60) ∨ k = 1 ∨ (k = 0 ∧ ∀ i, 0 ≤ i → i < v → i_num (S 0 i))) : m_B (x_up S 6 k v) := by
  obtain ⟨b0, b1, b2, b3, b4, b5, b6, b7, b8⟩ := h
  unfold m_B
  rw [x_up_ne (p := 0) (by decide), x_up_ne (p := 7) (by decide), x_up_ne (p := 3) (by decide), x_up_ne (p := 4) (by decide)]
  rcases hk with ⟨rfl, v0, v1⟩ | ⟨rfl, v0, v1⟩ | ⟨rfl, v0, v1⟩ | ⟨rfl, v0, v1⟩ | rfl | ⟨rfl, v0⟩
  · rw [x_up_s rfl, x_up_o (by decide), x_up_o (by decide), x_up_o (by decide), x_up_o (by decide), x_up_o (by decide), x_up_o (by decide)]
    exact ⟨b0, b1, b2, b3, b4, ⟨v0, v1⟩, b6, b7, b8⟩
  · rw [x_up_s rfl, x_up_o (by decide), x_up_o (by decide), x_up_o (by decide), x_up_o (by decide), x_up_o (by decide), x_up_o (by decide)]
    exact ⟨b0, b1, b2, b3, b4, b5, ⟨v0, v1⟩, b7, b8⟩
  · rw [x_up_s rfl, x_up_o (by decide), x_up_o (by decide), x_up_o (by decide), x_up_o (by decide), x_up_o (by decide), x_up_o (by decide)]
    exact ⟨b0, b1, b2, b3, ⟨v0, v1⟩, b5, b6, b7, b8⟩
  · rw [x_up_s rfl, x_up_o (by decide), x_up_o (by decide), x_up_o (by decide), x_up_o (by decide), x_up_o (by decide), x_up_o (by decide)]
    exact ⟨b0, b1, b2, b3, b4, b5, b6, ⟨v0, v1⟩, b8⟩
  · rw [x_up_o (by decide), x_up_o (by decide), x_up_o (by decide), x_up_o (by decide), x_up_o (by decide), x_up_o (by decide), x_up_o (by decide)]
    exact ⟨b0, b1, b2, b3, b4, b5, b6, b7, b8⟩
  · rw [x_up_s rfl, x_up_o (by decide), x_up_o (by decide), x_up_o (by decide), x_up_o (by decide), x_up_o (by decide), x_up_o (by decide)]
    exact ⟨v0, b1, b2, b3, b4, b5, b6, b7, b8⟩
theorem m_B_op {pn : Int → Int} {op n : Int} {o : Int × m_T} (hB : m_B S) (hc : 1 ≤ S 6 1 ∧ S 6 1 ≤ 60) (hh : 0 ≤ S 6 0 ∧ S 6 0 ≤ 200) (hn : op = 0 ∨ op = 7 → 0 ≤ n ∧ n ≤ 999) (h3 : S 6 3 < S 6 7) (h4 : S 6 4 < S 6 7) (h5 : S 6 5 < S 6 7) (ho : m_op pn op n S = some o) : m_B o.2 := by
  have hin := m_op_in ho
  obtain ⟨b0, b1, b2, b3, b4, b5, b6, b7, b8⟩ := id hB
  have dec : ∀ {X : m_T} {z : Int}, m_B X → z ≤ X 6 0 → m_B (x_up X 6 0 z) := fun {X z} hX hz => m_B_n hX (.inr (.inr (.inr (.inr (.inr ⟨rfl, fun i i0 i1 => hX.1 i i0 (by omega)⟩)))))
  have pu : ∀ {w : Int}, i_num w → m_B (m_pu S w) := fun {w} hw => m_B_n (m_B_0 hw hB) (.inr (.inr (.inr (.inr (.inr ⟨rfl, fun i i0 i1 => by
    by_cases e : i = S 6 0
    · rw [x_up_s e]; exact hw
    · rw [x_up_o e]; exact b0 i i0 (by omega)⟩)))))
  have a2 : ∀ {X : m_T} {g a : Int}, m_B X → (g = 0 ∨ g = 1) → 1 + g < X 6 0 → 0 ≤ a → a < X 6 2 → X 6 5 < X 6 7 → m_B (m_a2 g a X) := fun {X g a} hX hg hh' ha0 ha1 h5' => by
    have hX' := hX
    obtain ⟨c0, c1, c2, c3, c4, c5, c6, c7, c8⟩ := hX'
    have n5 : m_B (x_up X 6 5 (X 6 5 + 1)) := m_B_n hX (.inr (.inl ⟨rfl, by omega, by omega⟩))
    have tp : i_num (X 0 (X 6 0 - 1)) := c0 _ (by omega) (by omega)
    rcases hg with rfl | rfl
    · rw [m_a2_0]
      exact dec (m_B_0 (c2 a ha0 ha1) n5) (by rw [x_up_p (by decide), x_up_o (by decide)]; omega)
    · rw [m_a2_1]
      exact dec (m_B_0 tp (m_B_4 tp n5)) (by rw [x_up_p (by decide), x_up_p (by decide), x_up_o (by decide)]; omega)
  have ac : ∀ {ch : Bool} {g i row : Int} {o : Int × m_T}, (g = 0 ∨ g = 1) → 1 + g < S 6 0 → m_a1 ch g i row S = some o → m_B o.2 := fun {ch g i row o} hg hh' q => by
    have n4 : m_B (x_up S 6 4 (S 6 4 + 1)) := m_B_n hB (.inl ⟨rfl, by omega, by omega⟩)
    unfold m_a1 at q
    split at q
    · split at q
      · rename_i q1
        split at q
        · rename_i q2
          split at q
          · rename_i q3
            cases q
            exact a2 n4 hg (by rw [x_up_o (by decide)]; exact hh') (by omega) (by rw [x_up_o (by decide)]; exact q3) (by rw [x_up_o (by decide), x_up_o (by decide)]; exact h5)
          · cases q
        · cases q
          exact n4
      · cases q
    · split at q
      · rename_i q1
        cases q
        exact a2 hB hg hh' q1.1 q1.2 h5
      · cases q
  rcases hin with e | e | e | e | e | e | e | e | e | e | e | e | e | e | e | e | e
  · subst e
    rw [m_op_0] at ho
    split at ho
    · cases ho; exact hB
    · cases ho
      have := hn (.inl rfl)
      exact pu ⟨by omega, by omega⟩
  · subst e
    rw [m_op_1] at ho
    split at ho
    · cases ho; exact hB
    · split at ho
      · rename_i q
        cases ho
        exact pu (b1 _ q.2).2
      · cases ho
  · subst e
    rw [m_op_2] at ho
    split at ho
    · rename_i q
      cases ho
      have tp : i_num (S 0 (S 6 0 - 1)) := b0 _ (by omega) (by omega)
      have d0 := dec (z := S 6 0 - 1) hB (by omega)
      obtain ⟨c0, c1, c2, c3⟩ := d0
      dsimp only
      unfold m_B
      rw [x_up_ne (p := 6) (by decide), x_up_ne (p := 6) (by decide), x_up_ne (p := 0) (by decide), x_up_ne (p := 0) (by decide), x_up_ne (p := 4) (by decide), x_up_ne (p := 4) (by decide)]
      refine ⟨c0, fun i a => ?_, c2, c3⟩
      rw [x_up_ne (p := 3) (by decide)]
      by_cases e : i = 16 * (S 6 1 - 1) + n
      · rw [x_up_s e]
        exact ⟨by omega, tp⟩
      · rw [x_up_o e, x_up_p (by decide)] at a
        rw [x_up_o e]
        exact c1 i a
    · cases ho
  · subst e
    rw [m_op_3] at ho
    split at ho
    · cases ho
      exact dec hB (by omega)
    · cases ho
  · rw [m_op_4 e] at ho
    split at ho
    · unfold m_ar at ho
      split at ho
      · rename_i q2
        cases ho
        exact dec (m_B_0 q2 hB) (by rw [x_up_p (by decide)]; omega)
      · cases ho; exact hB
    · cases ho
  · subst e
    rw [m_op_7] at ho
    split at ho
    · rename_i q
      cases ho
      exact m_B_0 (div_b (b0 _ (by omega) (by omega)) q.2) hB
    · cases ho
  · subst e
    rw [m_op_8] at ho
    split at ho
    · rename_i q
      cases ho
      exact m_B_0 (b2 _ q.2.1 q.2.2) hB
    · cases ho
  · subst e
    rw [m_op_9] at ho
    split at ho
    · rename_i q
      split at ho
      · cases ho; exact hB
      · rename_i q2
        split at ho
        · cases ho; exact hB
        · rename_i q3
          cases ho
          unfold m_nr
          have hf : m_B (x_up (x_fill (x_up S 4 (S 6 2) (S 0 (S 6 0 - 1))) 4 (S 6 2 + 1) (S 0 (S 6 0 - 1)) 0) 0 (S 6 0 - 1) (S 6 2)) := by
            refine m_B_0 ⟨by omega, by omega⟩ ?_
            unfold m_B
            rw [x_fill_ne (p := 6) (by decide), x_fill_ne (p := 0) (by decide), x_fill_ne (p := 7) (by decide), x_fill_ne (p := 3) (by decide), x_up_ne (p := 6) (by decide), x_up_ne (p := 0) (by decide), x_up_ne (p := 7) (by decide), x_up_ne (p := 3) (by decide)]
            refine ⟨b0, b1, fun i i0 i1 => ?_, b3, b4, b5, b6, b7, b8⟩
            rw [x_fill_o (by omega), x_up_o (by omega)]
            exact b2 i i0 i1
          obtain ⟨c0, c1, c2, c3, c4, c5, c6, c7, c8⟩ := hf
          have s6 : ∀ k, x_up (x_fill (x_up S 4 (S 6 2) (S 0 (S 6 0 - 1))) 4 (S 6 2 + 1) (S 0 (S 6 0 - 1)) 0) 0 (S 6 0 - 1) (S 6 2) 6 k = S 6 k := fun k => by rw [x_up_p (by decide), x_fill_p (by decide), x_up_p (by decide)]
          rw [s6] at c0 c2 c4 c5 c6 c7 c8
          rw [s6] at c4 c5 c6
          dsimp only
          unfold m_B
          rw [x_up_s rfl, x_up_o (by decide), x_up_o (by decide), x_up_o (by decide), x_up_o (by decide), x_up_o (by decide), x_up_o (by decide), s6, s6, s6, s6, s6, s6, x_up_ne (p := 0) (by decide), x_up_ne (p := 7) (by decide), x_up_ne (p := 3) (by decide), x_up_ne (p := 4) (by decide)]
          refine ⟨c0, c1, fun i i0 i1 => ?_, by omega, c4, c5, c6, b7, b8⟩
          rw [x_up_p (by decide)]
          by_cases e : i < S 6 2
          · rw [x_fill_o (by omega), x_up_o (by omega)]
            exact b2 i i0 e
          · by_cases e2 : i = S 6 2
            · rw [x_fill_o (by omega), x_up_s e2]
              exact b0 _ (by omega) (by omega)
            · rw [x_fill_i (by omega)]
              exact ⟨by decide, by decide⟩
    · cases ho
  · subst e
    rw [m_op_10] at ho
    split at ho
    · exact ac (.inl rfl) (by omega) ho
    · cases ho
  · subst e
    rw [m_op_11] at ho
    split at ho
    · exact ac (.inl rfl) (by omega) ho
    · cases ho
  · subst e
    rw [m_op_12] at ho
    split at ho
    · exact ac (.inr rfl) (by omega) ho
    · cases ho
  · subst e
    rw [m_op_13] at ho
    split at ho
    · exact ac (.inr rfl) (by omega) ho
    · cases ho
  · subst e
    rw [m_op_14] at ho
    split at ho
    · cases ho
      by_cases q2 : S 6 3 < 100
      · rw [if_pos q2]
        exact m_B_n (m_B_up (by omega) hB) (.inr (.inr (.inl ⟨rfl, by omega, by rw [x_up_p (by decide)]; omega⟩)))
      · rw [if_neg q2]
        exact m_B_n hB (.inr (.inr (.inl ⟨rfl, by omega, by omega⟩)))
    · cases ho
  · subst e
    rw [m_op_15] at ho
    split at ho
    · cases ho; exact hB
    · rename_i q
      split at ho
      · rename_i q2
        cases ho
        unfold m_cl
        have hf : m_B (x_fill (x_cpy S 0 3 (S 6 0 - pn n) (16 * S 6 1) (pn n)) 7 (16 * S 6 1) (pn n) 1) := by
          unfold m_B
          rw [x_fill_ne (p := 6) (by decide), x_fill_ne (p := 0) (by decide), x_fill_ne (p := 4) (by decide), x_fill_ne (p := 3) (by decide), x_cpy_ne (p := 6) (by decide), x_cpy_ne (p := 0) (by decide), x_cpy_ne (p := 4) (by decide)]
          refine ⟨b0, fun i a => ?_, b2, b3, b4, b5, b6, b7, b8⟩
          by_cases e : 16 * S 6 1 ≤ i ∧ i < 16 * S 6 1 + pn n
          · rw [x_cpy_i e]
            exact ⟨by omega, b0 _ (by omega) (by omega)⟩
          · rw [x_fill_o (by omega), x_cpy_p (by decide)] at a
            rw [x_cpy_o (by omega)]
            exact b1 i a
        have f6 : ∀ k, x_fill (x_cpy S 0 3 (S 6 0 - pn n) (16 * S 6 1) (pn n)) 7 (16 * S 6 1) (pn n) 1 6 k = S 6 k := fun k => by rw [x_fill_p (by decide), x_cpy_p (by decide)]
        exact m_B_n (dec (m_B_n (m_B_up (by omega) (m_B_up (by omega) hf)) (.inr (.inr (.inr (.inr (.inl rfl)))))) (by rw [x_up_o (by decide), x_up_p (by decide), x_up_p (by decide), f6]; omega)) (.inr (.inr (.inr (.inl ⟨rfl, by omega, by omega⟩))))
      · cases ho
  · subst e
    rw [m_op_16] at ho
    cases ho
    exact m_B_up (by omega) hB
  · subst e
    rw [m_op_22] at ho
    cases ho
    exact m_B_n hB (.inr (.inr (.inr (.inr (.inl rfl)))))
  · obtain ⟨r, rfl⟩ : ∃ r, op = 17 + r := ⟨op - 17, by omega⟩
    rw [m_op_17 (by omega)] at ho
    split at ho
    · cases ho
      by_cases q2 : m_hb r (S 0 (S 6 0 - 2)) (S 0 (S 6 0 - 1)) = true
      · rw [if_pos q2]
        exact dec hB (by omega)
      · rw [if_neg q2]
        exact dec (m_B_up (by omega) hB) (by rw [x_up_p (by decide)]; omega)
    · cases ho
end

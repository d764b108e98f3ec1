/-! BOTH SAVE THE SAME ROWS -/
theorem sv_alike {M : Nat → Int → Int} {ce1 ce2 r1 r2 : Int → Int} {j : Nat} {tk : Int} (hs : iv_s M) (hj : j ≤ 6) (h1 : sv (M 43) (M 44) ce1 (M 45) r1 j) (h2 : sv (M 161) (M 162) ce2 (M 163) r2 j) (hc : ∀ c, 0 ≤ c → c < tk → ce1 c = ce2 c ∧ i_num (ce2 c)) (ht : bP (M 161) (M 162) j ≤ tk) : ∀ i : Int, 0 ≤ i → i < 6 → M 161 i = 1 → ∀ k, 0 ≤ k → k < M 162 i → r1 (40 * i + k) = r2 (40 * i + k) ∧ i_num (r2 (40 * i + k)) := by
  intro i i0 i1 r k k0 k1
  obtain ⟨ii, rfl⟩ : ∃ ii : Nat, i = ii := ⟨i.toNat, by omega⟩
  have ab := iv_AB2 hs
  obtain ⟨e1, e2⟩ := ab ii i0 i1
  have hA := iv_AB hs
  have sz := (hA ii i0 i1).2.2 r
  obtain ⟨p1, p2⟩ := h1 ii k (by omega) k0 (by omega)
  obtain ⟨q1, q2⟩ := h2 ii k (by omega) k0 (by omega)
  by_cases c : ii < j
  · have x1 := p1 c (by rw [e1]; exact r) (by rw [e2]; exact k1)
    have x2 := q1 c r k1
    rw [bP_c ab ii (by omega)] at x1
    have le : bP (M 161) (M 162) ii + (if M 161 ii = 1 then 1 + M 162 ii else 0) ≤ bP (M 161) (M 162) j := bP_le hA (ii + 1) j (by omega) hj
    rw [if_pos r] at le
    have pin := bP_in hA ii (by omega)
    obtain ⟨y1, y2⟩ := hc (bP (M 161) (M 162) ii + 1 + k) (by omega) (by omega)
    rw [x1, x2]
    exact ⟨y1, y2⟩
  · rw [p2 (.inl (by omega)), q2 (.inl (by omega))]
    exact iv_C hs ii (by omega) r k k0 k1

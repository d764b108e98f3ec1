/-! WHAT IS LEFT: four cases of the law. -/
theorem tb_eX_in {L : Nat} {xs : Nat → Int32} (hL : L ≤ 3072) (j : Nat) : (tb_eX L xs j).1 ≤ 1000000 := by
  unfold tb_eX
  split
  · show L ≤ 1000000
    omega
  · decide
  · decide
  · decide
  · decide
theorem la_define (eX : Nat → Nat × (Nat → Int32)) (hE : ∀ j, (eX j).1 ≤ 1000000) : la_P eX 253 := by
  sorry
theorem la_check (eX : Nat → Nat × (Nat → Int32)) (hE : ∀ j, (eX j).1 ≤ 1000000) : la_P eX 279 := by
  sorry
theorem la_run (eX : Nat → Nat × (Nat → Int32)) (hE : ∀ j, (eX j).1 ≤ 1000000) : la_P eX 801 := by
  sorry
theorem la_ask (eX : Nat → Nat × (Nat → Int32)) (hE : ∀ j, (eX j).1 ≤ 1000000) : la_P eX 1082 := by
  sorry
theorem law_run {L : Nat} {xs : Nat → Int32} (hL : L ≤ 3072) : mm_call tb_P (tb_eX L xs) 1200 0 [.ref 0] [] 0 (fun o _ _ => o = .inl (some (.int 1))) :=
  law_run4 hL (tb_eX_in hL) rfl (la_define _ (tb_eX_in hL)) (la_check _ (tb_eX_in hL)) (la_run _ (tb_eX_in hL)) (la_ask _ (tb_eX_in hL))

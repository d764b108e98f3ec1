/-! WHAT IS LEFT: the law's run on the small machine. -/
theorem law_run {L : Nat} {xs : Nat → Int32} (hL : L ≤ 3072) : mm_call tb_P (tb_eX L xs) 1200 0 [.ref 0] [] 0 (fun o _ _ => o = .inl (some (.int 1))) := by
  sorry

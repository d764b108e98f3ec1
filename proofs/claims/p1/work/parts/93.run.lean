theorem law_run {L : Nat} {xs : Nat → Int32} (hL : L ≤ 6) : mm_call tb_P L xs 100 0 [.ref 0] [] 0 (fun o _ _ => o = .inl (some (.int 1))) := by
  sorry

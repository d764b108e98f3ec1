theorem law_short {L : Nat} {xs : Nat → Int32} : mm_wE tb_P L xs (mm_callE tb_P L xs 99) 0 381 1200 tb_LS [] tb_G 159584 tb_Q := by
  conv => whnf
  trace_state
  exact rfl
theorem law_disp {xs : Nat → Int32} : mm_wE tb_P 6 xs (mm_callE tb_P 6 xs 99) 0 381 33 tb_LS [] tb_G 159584 tb_Q := by
  conv => whnf
  refine And.intro (by first | decide | (unfold vp_in; decide)) ?_
  conv => whnf
  trace_state
  sorry

set_option maxRecDepth 100000 in
set_option maxHeartbeats 40000000 in
theorem c_goal {xs : Nat → Int32} : mm_wE tb_P 6 xs (mm_callE tb_P 6 xs 99) 0 375 361 tb_LS [] tb_G 159584 tb_Q := by
  conv => whnf
  repeat (first | (refine And.intro (by first | decide | (unfold vp_in; decide)) ?_; conv => whnf) | (refine Exists.intro 3000 ?_; conv => whnf) | (refine br_t (by decide) ?_; conv => whnf) | (refine br_f (by decide) ?_; conv => whnf))
  trace_state; sorry

/-! THE DISPATCH, and the law's whole run. -/
set_option maxRecDepth 100000 in
set_option maxHeartbeats 40000000 in
theorem law_disp {xs : Nat → Int32} : mm_wE tb_P 6 xs (mm_callE tb_P 6 xs 99) 0 381 33 tb_LS [] tb_G 159584 tb_Q := by
  conv => whnf
  refine And.intro (by unfold vp_in; decide) ?_
  conv => whnf
  refine And.intro (fun _ => c_other) ?_
  conv => whnf
  refine And.intro (fun _ => c_type) ?_
  conv => whnf
  refine And.intro (fun _ => c_erase) ?_
  conv => whnf
  refine And.intro (fun _ => c_define) ?_
  conv => whnf
  refine And.intro (fun _ => c_clear) ?_
  conv => whnf
  refine And.intro (fun _ => c_check) ?_
  conv => whnf
  refine And.intro (fun _ => c_place) ?_
  conv => whnf
  refine And.intro (fun _ => c_count) ?_
  conv => whnf
  refine And.intro (fun _ => c_goal) ?_
  conv => whnf
  refine And.intro (fun _ => c_code) ?_
  conv => whnf
  refine And.intro (fun _ => c_set) ?_
  conv => whnf
  refine And.intro (fun _ => c_make) ?_
  conv => whnf
  refine And.intro (fun _ => c_put) ?_
  conv => whnf
  refine And.intro (fun _ => c_get) ?_
  conv => whnf
  refine And.intro (fun _ => c_value) ?_
  conv => whnf
  refine And.intro (fun _ => c_run) ?_
  conv => whnf
  refine And.intro (fun _ => c_told) ?_
  conv => whnf
  refine And.intro (fun _ => c_printed) ?_
  conv => whnf
  refine And.intro (fun _ => c_fact) ?_
  conv => whnf
  refine And.intro (fun _ => c_ask) ?_
  conv => whnf
  refine And.intro (fun _ => c_forget) ?_
  exact trivial
set_option maxRecDepth 100000 in
theorem law_run {L : Nat} {xs : Nat → Int32} (hL : L ≤ 6) : mm_call tb_P L xs 100 0 [.ref 0] [] 0 (fun o _ _ => o = .inl (some (.int 1))) := by
  rw [← mm_callE_eq]
  refine law_init (fun _ => law_short) (fun h => ?_)
  have h6 : L = 6 := by
    have hc : L = 0 ∨ L = 1 ∨ L = 2 ∨ L = 3 ∨ L = 4 ∨ L = 5 ∨ L = 6 := by omega
    rcases hc with rfl | rfl | rfl | rfl | rfl | rfl | rfl
    all_goals first | rfl | exact absurd (by decide) h
  subst h6
  exact law_disp

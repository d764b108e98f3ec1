set_option maxRecDepth 100000 in
theorem law_short {L : Nat} {xs : Nat → Int32} : mm_wE tb_P L xs (mm_callE tb_P L xs 99) 0 381 1200 tb_LS [] tb_G 159584 tb_Q := by
  conv => whnf
  exact ⟨rfl, rfl⟩
set_option maxRecDepth 100000 in
set_option maxHeartbeats 40000000 in
theorem c_other {xs : Nat → Int32} : mm_wE tb_P 6 xs (mm_callE tb_P 6 xs 99) 0 375 1194 tb_LS [] tb_G 159584 tb_Q := by
  conv => whnf
  repeat (first | (refine And.intro (by first | decide | (unfold vp_in; decide)) ?_; conv => whnf) | (refine Exists.intro 3000 ?_; conv => whnf) | (refine br_t (by decide) ?_; conv => whnf) | (refine br_f (by decide) ?_; conv => whnf))
  exact rfl
set_option maxRecDepth 100000 in
set_option maxHeartbeats 40000000 in
theorem c_erase {xs : Nat → Int32} : mm_wE tb_P 6 xs (mm_callE tb_P 6 xs 99) 0 375 240 tb_LS [] tb_G 159584 tb_Q := by
  conv => whnf
  repeat (first | (refine And.intro (by first | decide | (unfold vp_in; decide)) ?_; conv => whnf) | (refine Exists.intro 3000 ?_; conv => whnf) | (refine br_t (by decide) ?_; conv => whnf) | (refine br_f (by decide) ?_; conv => whnf))
  exact rfl
set_option maxRecDepth 100000 in
set_option maxHeartbeats 40000000 in
theorem c_define {xs : Nat → Int32} : mm_wE tb_P 6 xs (mm_callE tb_P 6 xs 99) 0 375 253 tb_LS [] tb_G 159584 tb_Q := by
  conv => whnf
  repeat (first | (refine And.intro (by first | decide | (unfold vp_in; decide)) ?_; conv => whnf) | (refine Exists.intro 3000 ?_; conv => whnf) | (refine br_t (by decide) ?_; conv => whnf) | (refine br_f (by decide) ?_; conv => whnf))
  exact rfl
set_option maxRecDepth 100000 in
set_option maxHeartbeats 40000000 in
theorem c_clear {xs : Nat → Int32} : mm_wE tb_P 6 xs (mm_callE tb_P 6 xs 99) 0 375 266 tb_LS [] tb_G 159584 tb_Q := by
  conv => whnf
  repeat (first | (refine And.intro (by first | decide | (unfold vp_in; decide)) ?_; conv => whnf) | (refine Exists.intro 3000 ?_; conv => whnf) | (refine br_t (by decide) ?_; conv => whnf) | (refine br_f (by decide) ?_; conv => whnf))
  exact rfl
set_option maxRecDepth 100000 in
set_option maxHeartbeats 40000000 in
theorem c_check {xs : Nat → Int32} : mm_wE tb_P 6 xs (mm_callE tb_P 6 xs 99) 0 375 279 tb_LS [] tb_G 159584 tb_Q := by
  conv => whnf
  repeat (first | (refine And.intro (by first | decide | (unfold vp_in; decide)) ?_; conv => whnf) | (refine Exists.intro 3000 ?_; conv => whnf) | (refine br_t (by decide) ?_; conv => whnf) | (refine br_f (by decide) ?_; conv => whnf))
  exact rfl
set_option maxRecDepth 100000 in
set_option maxHeartbeats 40000000 in
theorem c_place {xs : Nat → Int32} : mm_wE tb_P 6 xs (mm_callE tb_P 6 xs 99) 0 375 292 tb_LS [] tb_G 159584 tb_Q := by
  conv => whnf
  repeat (first | (refine And.intro (by first | decide | (unfold vp_in; decide)) ?_; conv => whnf) | (refine Exists.intro 3000 ?_; conv => whnf) | (refine br_t (by decide) ?_; conv => whnf) | (refine br_f (by decide) ?_; conv => whnf))
  exact rfl
set_option maxRecDepth 100000 in
set_option maxHeartbeats 40000000 in
theorem c_forget {xs : Nat → Int32} : mm_wE tb_P 6 xs (mm_callE tb_P 6 xs 99) 0 375 1181 tb_LS [] tb_G 159584 tb_Q := by
  conv => whnf
  repeat (first | (refine And.intro (by first | decide | (unfold vp_in; decide)) ?_; conv => whnf) | (refine Exists.intro 3000 ?_; conv => whnf) | (refine br_t (by decide) ?_; conv => whnf) | (refine br_f (by decide) ?_; conv => whnf))
  exact rfl

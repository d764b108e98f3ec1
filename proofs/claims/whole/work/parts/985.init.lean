/-! both constructors, run -/
set_option maxRecDepth 100000 in
set_option maxHeartbeats 40000000 in
theorem w_init {eX : Nat → Nat × (Nat → Int32)} {Q : mm_K} {d : Nat} (h : mm_l tb_P eX (mm_call tb_P eX (d + 99)) 0 Q 23 tb_LS [] tb_G 159584) : mm_call tb_P eX (d + 100) 0 [.ref 0] [] 0 Q := by
  refine mm_run true (fun k pc => Nat.beq k 0 && Nat.beq pc 23) (fun _ => true) (fun F C hF hC => ?_)
  refine Exists.intro 400 ?_
  conv => whnf
  repeat (first | (refine And.intro (by first | decide | (unfold vp_in; decide)) ?_; conv => whnf) | (refine Exists.intro 3000 ?_; conv => whnf) | (refine br_t (by decide) ?_; conv => whnf) | (refine br_f (by decide) ?_; conv => whnf))
  exact hF _ _ _ _ _ _ _ _ (mm_more h rfl ⟨rfl, rfl, rfl, rfl, rfl, trivial⟩)

theorem tt_4 {L : Nat} {xs : Nat → Int32} {call : mm_Call} {Q : mm_K} (h : ∀ g sl, Q (.inl none) g sl) : mm_wE tb_P L xs call 88 60 0 [(0, .ref 1)] [] [.inr (1, tb_V1)] 10 Q := by
  conv => whnf
  refine And.intro (by decide) ?_
  conv => whnf
  refine And.intro (by decide) ?_
  conv => whnf
  refine And.intro (by decide) ?_
  conv => whnf
  refine And.intro (by decide) ?_
  conv => whnf
  trace_state
  exact h _ _

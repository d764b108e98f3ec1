/-! OTHER CALLS keep functions -/
theorem fnP_g : iv_P fnP := by
  intro ρ e M R sl ρ' e' M' R' sl' h hg
  obtain ⟨g1, g2, g3, ⟨g4, -⟩, g5⟩ := hg
  obtain ⟨h1, h2, h3⟩ := h
  dsimp only at h1 h2 h3 ⊢
  have r7 : ∀ k, R' 7 k = R 7 k := fun k => g5 7 k (by omega)
  refine ⟨fun k a b => ?_, fun k k' q a b u v w => ?_, fun f a a8 b => ?_⟩
  · dsimp only
    rcases h1 k a b with h | ⟨q, q1, ⟨q2, q3, q4⟩, q5⟩
    · exact .inl (by rw [r7]; exact h)
    · exact .inr ⟨q, by rw [r7]; exact q1, ⟨by rw [g1 q (by omega)]; exact q2, by rw [g1 (q + 1) (by omega)]; exact q3, by rw [g5 (q + 174) 0 (by omega)]; exact q4⟩, by omega⟩
  · dsimp only
    rw [r7, r7]
    exact h2 k k' q a b u v w
  · dsimp only at b ⊢
    obtain ⟨q, q1, q2, q3⟩ := h3 f a a8 (by omega)
    have q5 : q + 2 ≤ e := by
      rcases h1 f a a8 with h | ⟨q', k1, -, k2⟩
      · rw [q1] at h; cases h
      · rw [q1] at k1
        injection k1 with k1
        omega
    have m1 : ∀ j, M' (q + 174) j = M (q + 174) j := fun j => g3 _ j (by omega)
    have m2 : M' (q + 175) = M (q + 175) := by funext j; exact g3 _ j (by omega)
    have m3 : (fun j => M' (q + 174) j) = fun j => M (q + 174) j := by funext j; exact m1 j
    refine ⟨q, by rw [r7]; exact q1, by rw [m1 1]; exact q2, ?_⟩
    rw [m2, m3, m1 1]
    have e1 : ∀ x, 86 ≤ x → x ≤ 118 → mf f M' x = mf f M x := fun x u v => by
      rw [mf_ne (by omega), mf_ne (by omega)]
      funext j
      exact g3 x j (by omega)
    obtain ⟨p1, p2, p3, p4, p5, p6⟩ := mf_c (f := f) (M := M)
    obtain ⟨s1, s2, s3, s4, s5, s6⟩ := mf_c (f := f) (M := M')
    exact fR_t q3 ⟨⟨by omega, fun x i u v _ => by rw [e1 x (by omega) (by omega)]⟩, ⟨by omega, fun x i u v _ => by rw [e1 x (by omega) (by omega)]⟩, ⟨by omega, fun x i u v _ => by rw [e1 x (by omega) (by omega)]⟩, ⟨by omega, fun x i u v _ => by rw [e1 x (by omega) (by omega)]⟩, ⟨by omega, fun x i u v _ => by rw [e1 x (by omega) (by omega)]⟩, by omega, (fun i _ => by rw [e1 118 (by decide) (by decide)]), by omega⟩ (fun x hx => by rw [e1 x (by omega) (by omega)]) (fun i _ _ => by rw [e1 87 (by decide) (by decide)]) (fun x i hx _ _ => by rw [e1 x (by omega) (by omega)])

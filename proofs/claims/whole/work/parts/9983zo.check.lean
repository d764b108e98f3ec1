/-! AFTER CHECK: what holds between calls -/
theorem iv_ck {ρ ρ' : Nat → Option xk} {e e' sl sl' : Nat} {M M' : Nat → Int → Int} {R R' : Nat → Int → Option Nat} (h : iv (ρ, e, M, R, sl)) (a1 : ∀ (x : Nat) (j : Int), (0 < x ∧ x < 8) ∨ (41 < x ∧ x < 81) ∨ (81 < x ∧ x < 86) ∨ (160 < x ∧ x < 174) → M' x j = M x j) (b1 : ∀ j : Int, (0 < j ∧ j < 7) ∨ j = 10 ∨ 119 < j → M' 81 j = M 81 j) (h9 : M' 0 9 = M 0 9) (h10 : M' 0 10 = M' 81 7) (hc : iv_c M') (hk : iv_k ρ' e' M' R') : iv (ρ', e', M', R', sl') := by
  obtain ⟨h1, h2, h3, h4, h5, h6, h7, h8⟩ := h
  dsimp only at h1 h2 h3 h4 h5 h6
  refine ⟨?_, ?_, ?_, ?_, hc, ?_, hk, trivial⟩
  · simpa (disch := omega) only [iv_t, a1, b1] using h1
  · simpa (disch := omega) only [iv_s, a1, b1] using h2
  · simpa (disch := omega) only [iv_d, a1, b1] using h3
  · unfold iv_p at h4 ⊢
    dsimp only
    rw [h9, b1 10 (by omega)]
    exact ⟨h10, h4.2⟩
  · simpa (disch := omega) only [iv_m, a1, b1] using h6
theorem nP_ck {ρ ρ' : Nat → Option xk} {e e' sl sl' fs : Nat} {M M' : Nat → Int → Int} {R R' : Nat → Int → Option Nat} {ow' : Nat → Int} {Tt : Nat → Int → Int} (hf : fnP (ρ, e, M, R, sl)) (h8 : fs ≤ 8) (h9 : M 0 9 = fs) (h9' : M' 0 9 = fs) (hT : ∀ x, 86 ≤ x → x ≤ 118 → x ≠ 103 → M' x = M x) (hρ : ∀ i, i < e → ρ' i = ρ i) (he : e ≤ e') (h7 : ∀ k, R' 7 k = R 7 k) (hR : ∀ q : Nat, c_T ρ R q → q + 2 ≤ e → R' (q + 174) 0 = R (q + 174) 0) (hF : ∀ g, g < fs → M' ((trS M R g).1 + 174) = (trS M R g).2.1) (hM : ∀ g, g < fs → M' ((trS M R g).1 + 175) = Tt g ∧ tM (trS M R g).2.2 (Tt g)) : fnP (ρ', e', M', R', sl') := by
  refine ⟨fun k k0 k8 => ?_, fun k k' q a b c d hkk hq => ?_, fun f f0 f8 f1 => ?_⟩
  · dsimp only
    rw [h7]
    rcases hf.1 k k0 k8 with z | ⟨q, z1, z2, z3⟩
    · exact .inl z
    · dsimp only at z1 z2 z3
      obtain ⟨c1, c2, c3⟩ := id z2
      exact .inr ⟨q, z1, ⟨by rw [hρ q (by omega)]; exact c1, by rw [hρ (q + 1) (by omega)]; exact c2, by rw [hR q z2 z3]; exact c3⟩, by omega⟩
  · dsimp only at hq ⊢
    rw [h7] at hq ⊢
    exact hf.2.1 k k' q a b c d hkk hq
  · dsimp only at f1 ⊢
    obtain ⟨g, rfl⟩ : ∃ g : Nat, f = g := ⟨f.toNat, by omega⟩
    have hg : g < fs := by omega
    obtain ⟨a1, ⟨a2, a3⟩, a4, a5, a6, a7⟩ := trS_of hf (by omega) (g := g) (by omega)
    obtain ⟨b1, b2⟩ := hM g hg
    refine ⟨(trS M R g).1, by rw [h7]; exact a1, by rw [hF g hg]; exact a6, ?_⟩
    rw [b1, hF g hg]
    exact fR_s hT (fR_M b2 a7)

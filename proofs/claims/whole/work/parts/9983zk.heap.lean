/-! OBJECTS of the class that check uses again: what holds of them between calls -/
section
variable {ρ ρ' : Nat → Option xk} {e e' : Nat} {R R' : Nat → Int → Option Nat} {ow ow' : Nat → Int}
/-- objects that there are stay -/
def hXt (ρ : Nat → Option xk) (e : Nat) (R : Nat → Int → Option Nat) (ρ' : Nat → Option xk) (e' : Nat) (R' : Nat → Int → Option Nat) : Prop := (∀ i, i < e → ρ' i = ρ i) ∧ e ≤ e' ∧ ∀ x i, x = 16 ∨ x = 33 ∨ x = 34 ∨ (174 ≤ x ∧ x < e + 174) → R' x i = R x i
theorem c_E_x {x : Nat} (h : c_E ρ R x) (hg : hXt ρ e R ρ' e' R') (hx : x + 2 ≤ e + 174) : c_E ρ' R' x := by
  have hge := c_E_ge h
  obtain ⟨h1, h2, h3⟩ := h
  obtain ⟨a1, a2, a3⟩ := hg
  rw [xm_kd_dy hge] at h1
  rw [xm_kd_dy (by omega)] at h2
  exact ⟨by rw [xm_kd_dy hge, a1 _ (by omega)]; exact h1, by rw [xm_kd_dy (by omega), a1 _ (by omega)]; exact h2, by rw [a3 x 0 (by omega)]; exact h3⟩
theorem c_S_x {y : Nat} (h : c_S ρ R y) (hg : hXt ρ e R ρ' e' R') (hy : 174 ≤ y ∧ y + 5 ≤ e + 174) : c_S ρ' R' y := by
  obtain ⟨⟨h1, h2, h3, h4⟩, h5, h6, h7⟩ := h
  have h2' := c_E_x h2 hg (by omega)
  obtain ⟨a1, a2, a3⟩ := hg
  rw [xm_kd_dy (by omega)] at h1 h3 h4
  exact ⟨⟨by rw [xm_kd_dy (by omega), a1 _ (by omega)]; exact h1, h2', by rw [xm_kd_dy (by omega), a1 _ (by omega)]; exact h3, by rw [xm_kd_dy (by omega), a1 _ (by omega)]; exact h4⟩, by rw [a3 y 1 (by omega)]; exact h5, by rw [a3 y 3 (by omega)]; exact h6, by rw [a3 y 4 (by omega)]; exact h7⟩
theorem kHp_x (h : kHp ρ e R ow) (hg : hXt ρ e R ρ' e' R') (ho : ∀ x, x < e + 174 → ow' x = ow x) : kHp ρ' e' R' ow' := by
  obtain ⟨h1, h2, h3⟩ := h
  have hg' := hg
  obtain ⟨a1, a2, a3⟩ := hg'
  refine ⟨fun k k0 k1 => ?_, fun i i0 i1 => ?_, fun i hi => by rw [a3 16 i (by omega)]; exact h3 i hi⟩
  · rw [a3 33 k (by omega)]
    rcases h1 k k0 k1 with q | ⟨x, q1, q2, q3, q4⟩
    · exact .inl q
    · exact .inr ⟨x, q1, c_E_x q2 hg q4, ⟨by rw [ho x (by omega)]; exact q3.1, by rw [ho (x + 1) (by omega)]; exact q3.2⟩, by omega⟩
  · rw [a3 34 i (by omega)]
    rcases h2 i i0 i1 with q | ⟨y, q1, q2, q3, q4, q5⟩
    · exact .inl q
    · refine .inr ⟨y, q1, c_S_x q2 hg q3, by omega, fun z z0 z1 => by rw [ho z (by omega)]; exact q4 z z0 z1, fun j j0 j1 => ?_⟩
      rw [a3 (y + 4) j (by omega)]
      rcases q5 j j0 j1 with r | ⟨x, r1, r2, r3, r4⟩
      · exact .inl r
      · exact .inr ⟨x, r1, c_E_x r2 hg r4, ⟨by rw [ho x (by omega)]; exact r3.1, by rw [ho (x + 1) (by omega)]; exact r3.2⟩, by omega⟩
end
/-- what is kept of objects -/
def hPo (s : xs) : Prop := (∃ ow, kHp s.1 s.2.1 s.2.2.2.1 ow ∧ ∀ k, 0 ≤ k → k ≤ 8 → ∀ q : Nat, s.2.2.2.1 7 k = some (q + 175) → ow (q + 174) = -1 ∧ ow (q + 175) = -1) ∧ iv_r s.2.2.2.1 ∧ oA s.1 s.2.1 s.2.2.2.1
/-- trees' owners, and new ones -/
theorem hPo_go {ρ ρ' : Nat → Option xk} {e e' sl sl' : Nat} {M M' : Nat → Int → Int} {R R' : Nat → Int → Option Nat} (h : hPo (ρ, e, M, R, sl)) (hf : fnP (ρ, e, M, R, sl)) (hg : hXt ρ e R ρ' e' R') (h7 : ∀ k, 0 ≤ k → k ≤ 8 → R' 7 k = R 7 k ∨ ∃ q : Nat, e ≤ q ∧ R' 7 k = some (q + 175)) (hr : iv_r R') (h38 : ∀ i, R' 38 i = R 38 i) : hPo (ρ', e', M', R', sl') := by
  obtain ⟨⟨ow, k1, k2⟩, k3, k4⟩ := h
  dsimp only at k1 k2 k3 k4
  refine ⟨⟨fun x => if x < e + 174 then ow x else -1, kHp_x k1 hg (fun x hx => if_pos hx), fun k k0 k8 q hq => ?_⟩, hr, oA_go k4 hg.1 hg.2.1 h38⟩
  dsimp only at hq ⊢
  rcases h7 k k0 k8 with w | ⟨q', w1, w2⟩
  · rw [w] at hq
    have o := k2 k k0 k8 q hq
    rcases hf.1 k k0 k8 with z | ⟨q2, z1, -, z3⟩
    · dsimp only at z; rw [hq] at z; cases z
    · dsimp only at z1 z3
      rw [hq] at z1
      injection z1 with z1
      rw [if_pos (by omega), if_pos (by omega)]
      exact o
  · rw [w2] at hq
    injection hq with hq
    rw [if_neg (by omega), if_neg (by omega)]
    exact ⟨rfl, rfl⟩
theorem hPo_d {ρ ρ' : Nat → Option xk} {e e' sl sl' : Nat} {M M' : Nat → Int → Int} {R R' : Nat → Int → Option Nat} (h : hPo (ρ, e, M, R, sl)) (hf : fnP (ρ, e, M, R, sl)) (hg : dHg ρ e R ρ' e' R') : hPo (ρ', e', M', R', sl') := by
  obtain ⟨a1, a2, a3, a4⟩ := hg
  refine hPo_go h hf ⟨a1, a2, fun x i hx => a3 x i (by omega) (by omega) (by omega)⟩ (fun k _ _ => a4 k) ?_ (fun i => a3 38 i (by omega) (by decide) (by decide))
  have hr := h.2.1
  dsimp only at hr
  unfold iv_r at hr ⊢
  rw [a3 56 0 (by omega) (by decide) (by decide), a3 56 1 (by omega) (by decide) (by decide), a3 10 0 (by omega) (by decide) (by decide), a3 10 1 (by omega) (by decide) (by decide)]
  exact hr
/-- functions and objects -/
def nP (s : xs) : Prop := fnP s ∧ hPo s
theorem nP_g : iv_P nP := by
  intro ρ e M R sl ρ' e' M' R' sl' h hg
  refine ⟨fnP_g ρ e M R sl ρ' e' M' R' sl' h.1 hg, ?_⟩
  obtain ⟨g1, g2, g3, g4, g5⟩ := hg
  exact hPo_d h.2 h.1 ⟨g1, g2, fun x i hx _ _ => g5 x i hx, fun k => .inl (g5 7 k (by omega))⟩
theorem nP_h {ρ ρ' : Nat → Option xk} {e e' sl sl' : Nat} {M M' : Nat → Int → Int} {R R' : Nat → Int → Option Nat} (h : hPo (ρ, e, M, R, sl)) (hf : fnP (ρ, e, M, R, sl)) (hg : iv_h ρ e M R ρ' e' M' R') : hPo (ρ', e', M', R', sl') := by
  obtain ⟨g1, g2, g3, g4, g5, g6⟩ := hg
  exact hPo_go h hf ⟨g1, g2, fun x i hx => g5 x i (by omega) (by omega)⟩ (fun k _ _ => .inl (g5 7 k (by decide) (by omega))) g6 (fun i => g5 38 i (by decide) (by omega))

/-! AFTER CHECK: objects -/
theorem hPo_ck {ρ ρ1 ρ' : Nat → Option xk} {e e1 e' sl sl1 sl' : Nat} {M M' : Nat → Int → Int} {R R1 R' : Nat → Int → Option Nat} {ow ow1 : Nat → Int} (hf : fnP (ρ, e, M, R, sl)) (ho : ∀ k, 0 ≤ k → k ≤ 8 → ∀ q : Nat, R 7 k = some (q + 175) → ow (q + 174) = -1 ∧ ow (q + 175) = -1) (hg : kG ρ e R sl ow ρ1 e1 R1 sl1 ow1) (hk : kHp ρ1 e1 R1 ow1) (hx : hXt ρ1 e1 R1 ρ' e' R') (h7 : ∀ k, R' 7 k = R 7 k) (hr : iv_r R') (hA : oA ρ' e' R') : hPo (ρ', e', M', R', sl') := by
  refine ⟨⟨fun x => if x < e1 + 174 then ow1 x else -1, kHp_x hk hx (fun x h => if_pos h), fun k k0 k8 q hq => ?_⟩, hr, hA⟩
  dsimp only at hq ⊢
  rw [h7] at hq
  have o := ho k k0 k8 q hq
  have ee := hg.2.1
  rcases hf.1 k k0 k8 with z | ⟨q2, z1, -, z3⟩
  · dsimp only at z; rw [hq] at z; cases z
  · dsimp only at z1 z3
    rw [hq] at z1
    injection z1 with z1
    rw [if_pos (by omega), if_pos (by omega), hg.2.2.2.1 (q + 174) (by omega), hg.2.2.2.1 (q + 175) (by omega)]
    exact o
theorem hXt_ex {ρ : Nat → Option xk} {e : Nat} {R : Nat → Int → Option Nat} {k : xk} : hXt ρ e R (x_new ρ e k) (e + 1) (x_zR R (e + 174)) := ⟨fun i hi => by unfold x_new; rw [if_neg (by omega)], by omega, fun x i hx => x_zR_p (by omega)⟩
theorem hXt_rf {ρ : Nat → Option xk} {e : Nat} {R : Nat → Int → Option Nat} : hXt ρ e R ρ e R := ⟨fun _ _ => rfl, Nat.le_refl _, fun _ _ _ => rfl⟩
theorem iv_r_w {R R' : Nat → Int → Option Nat} (h : iv_r R) (h56 : ∀ i, R' 56 i = R 56 i) (h10 : w10 R') : iv_r R' := by
  unfold iv_r at h ⊢
  rw [h56, h56]
  exact ⟨h.1, h10⟩

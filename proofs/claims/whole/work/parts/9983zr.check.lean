/-! CHECK: what holds behind it -/
section
variable {ρ ρ1 : Nat → Option xk} {e e1 sl sl1 fs : Nat} {M M1 M2 M' : Nat → Int → Int} {R R1 : Nat → Int → Option Nat} {ow ow1 : Nat → Int} {t : Int}
/-- what check leaves as it was, on both sides -/
def ckS (fs : Nat) (M M' : Nat → Int → Int) : Prop := (∀ (x : Nat) (j : Int), (0 < x ∧ x < 8) ∨ (41 < x ∧ x < 81) ∨ (81 < x ∧ x < 86) ∨ (160 < x ∧ x < 174) → M' x j = M x j) ∧ (∀ j : Int, (0 < j ∧ j < 7) ∨ j = 10 ∨ 119 < j → M' 81 j = M 81 j) ∧ M' 0 9 = M 0 9 ∧ ∀ x, 86 ≤ x → x ≤ 118 → x ≠ 103 → M' x = M x
/-- no access to the code: not accepted -/
theorem ck_end (h : iv (ρ, e, M, R, sl)) (hf : fnP (ρ, e, M, R, sl)) (h8 : fs ≤ 8) (h9 : M 0 9 = fs) (hs : ckS fs M M') (h10 : M' 0 10 = M' 81 7) (hc : iv_c M') (hk : iv_k ρ1 e1 M' R1) (ho : ∀ k, 0 ≤ k → k ≤ 8 → ∀ q : Nat, R 7 k = some (q + 175) → ow (q + 174) = -1 ∧ ow (q + 175) = -1) {ρ3 : Nat → Option xk} {e3 sl3 : Nat} {R3 : Nat → Int → Option Nat} (hg : kG ρ e R sl ow ρ3 e3 R3 sl3 ow1) (hH : kHp ρ3 e3 R3 ow1) (hx : hXt ρ3 e3 R3 ρ1 e1 R1) (h7 : ∀ k, R1 7 k = R 7 k) (hr : iv_r R1) (hA : oA ρ1 e1 R1) {Tt : Nat → Int → Int} (hF : ∀ g, g < fs → M' ((trS M R g).1 + 174) = (trS M R g).2.1) (hM : ∀ g, g < fs → M' ((trS M R g).1 + 175) = Tt g ∧ tM (trS M R g).2.2 (Tt g)) (ha : wAc M') (hN : nAl M) : iv (ρ1, e1, M', R1, sl1) ∧ oP (ρ1, e1, M', R1, sl1) := by
  obtain ⟨s1, s2, s3, s4⟩ := hs
  refine ⟨iv_ck h s1 s2 s3 h10 hc hk, ⟨?_, ?_⟩, ha, fun f f0 f1 => ?_⟩
  rotate_left 2
  · dsimp only at f1 ⊢
    rw [s3] at f1
    have := hN f f0 f1
    unfold dNf at this ⊢
    rw [s4 88 (by decide) (by decide) (by decide), s4 93 (by decide) (by decide) (by decide), s4 87 (by decide) (by decide) (by decide), s4 91 (by decide) (by decide) (by decide)]
    exact this
  · refine nP_ck (ow' := ow1) (Tt := Tt) hf h8 h9 (by rw [s3]; exact h9) s4 (fun i hi => ?_) (by have := hg.2.1; have := hx.2.1; omega) h7 (fun q hq he => ?_) hF hM
    · rw [hx.1 i (by have := hg.2.1; omega), hg.1 i hi]
    · have := hg.2.1
      rw [hx.2.2 (q + 174) 0 (by omega), hg.2.2.1 (q + 174) 0 (q + 176) (by omega) (by omega) (by omega) (by omega) hq.2.2, hq.2.2]
  · exact hPo_ck hf ho hg hH hx h7 hr hA
theorem ck_ivc {s : k_s} (hS : gS M1 s) (h5 : M1 8 12 = s.1 5) (h6 : M1 8 13 = s.1 6) (h4 : M1 8 4 = -1) (h14 : M1 8 14 = s.1 4) (e8 : M' 8 = M1 8) (e9 : M' 9 = M1 9) (e15 : M' 15 = M1 15) (h11 : M' 0 11 = 1) (hq : qG M' s) (h66 : M' 81 66 = -1) (h63 : M' 81 63 = s.1 3) (h67 : M' 81 67 = s.1 4) : iv_c M' := by
  obtain ⟨-, -, ⟨g1, g2, g3⟩, ⟨g4, g5, g6⟩, ⟨g7, g8⟩, -, g9⟩ := hS
  obtain ⟨⟨q1, q2, q3⟩, ⟨q4, -, -⟩, ⟨q5, -, -⟩, q6⟩ := hq
  refine ⟨.inr h11, fun z => by omega, fun _ => ⟨by rw [e9, g1, q1], by rw [e9, g4, h63], by rw [e8, h5, q4], by rw [e8, h6, q5], by rw [e8, h4, h66], by rw [e8, h14, h67], by rw [e9, g1]; exact ⟨q2, q3⟩, by rw [e8, h14]; exact g8, fun k k0 k1 => ?_⟩⟩
  rw [e9, g1] at k1
  obtain ⟨r0, r1, r2, r3, r4, r5, r6⟩ := q6 k k0 k1
  have gg := g9 k k0 k1
  have g0 := gg 0 (by omega) (by omega)
  rw [Int.add_zero] at g0
  rw [e15]
  exact ⟨by rw [g0]; exact r0.symm, by rw [gg 1 (by omega) (by omega)]; exact r1.symm, by rw [gg 2 (by omega) (by omega)]; exact r2.symm, by rw [gg 3 (by omega) (by omega)]; exact r3.symm, by rw [gg 4 (by omega) (by omega)]; exact r4.symm, by rw [gg 5 (by omega) (by omega)]; exact r5.symm, by show M' 131 k = 0 ∨ M' 131 k = 1; rw [r3]; exact r6⟩
theorem ck_ivx {c a g : Int} (h9 : M1 9 9 = 0) (h10 : M1 9 10 = 0) (h12 : M1 8 12 = 0) (h13 : M1 8 13 = 0) (h4 : M1 8 4 = g) (h14 : M1 8 14 = 0) (e8 : M' 8 = M1 8) (e9 : M' 9 = M1 9) (h11 : M' 0 11 = 1) (hx : cX M2 M' c a g) : iv_c M' := by
  obtain ⟨x1, x2, x3, ⟨x4, x5, x6, x7, x8⟩, -⟩ := hx
  refine ⟨.inr h11, fun z => by omega, fun _ => ⟨by rw [e9, h9, x4], by rw [e9, h10, x5], by rw [e8, h12, x6], by rw [e8, h13, x7], by rw [e8, h4, x3], by rw [e8, h14, x8], by rw [e9, h9]; omega, by rw [e8, h14]; exact .inl rfl, fun k k0 k1 => ?_⟩⟩
  rw [e9, h9] at k1
  omega
end
/-- the class's side, as the reference's reads it -/
theorem ckS_of {fs : Nat} {tr : Nat → c_t} {e : Nat} {ow : Nat → Int} {M M1 M2 M' : Nat → Int → Int} {R R1 : Nat → Int → Option Nat} (hj : jG fs tr e ow M R M1 R1) (h2 : ∀ x, x < 174 → x ≠ 0 → x ≠ 37 → x ≠ 39 → x ≠ 40 → x ≠ 41 → M2 x = M1 x) (h0 : M2 0 9 = M1 0 9) (hp : ∀ x, x ≠ 81 → x < 174 → (x < 119 ∨ 160 < x) → x ≠ 103 → M' x = M2 x) (hq : ∀ j : Int, (0 < j ∧ j < 7) ∨ j = 10 ∨ 119 < j → M' 81 j = M2 81 j) : ckS fs M M' := by
  have k : ∀ x, ckK x → M1 x = M x := fun x hx => jG_K hj hx
  refine ⟨fun x j hx => ?_, fun j hj => ?_, ?_, fun x a b c => ?_⟩
  · rw [hp x (by omega) (by omega) (by omega) (by omega), h2 x (by omega) (by omega) (by omega) (by omega) (by omega) (by omega), k x (by unfold ckK; omega)]
  · rw [hq j hj, h2 81 (by omega) (by omega) (by omega) (by omega) (by omega) (by omega), k 81 (by unfold ckK; omega)]
  · rw [hp 0 (by omega) (by omega) (by omega) (by omega), h0, k 0 (by unfold ckK; omega)]
  · rw [hp x (by omega) (by omega) (by omega) (by omega), h2 x (by omega) (by omega) (by omega) (by omega) (by omega) (by omega), k x (by unfold ckK; omega)]
theorem jG_R {fs : Nat} {tr : Nat → c_t} {e : Nat} {ow : Nat → Int} {M M1 : Nat → Int → Int} {R R1 : Nat → Int → Option Nat} (hj : jG fs tr e ow M R M1 R1) {x : Nat} {i : Int} (h : x < 174) (h8 : x ≠ 8) (h10 : x ≠ 10) (h33 : x ≠ 33) (h34 : x ≠ 34) (h36 : x ≠ 36) : R1 x i = R x i := hj.2 x i ⟨by omega, h10, h33, h34, h36, fun q => by omega⟩ h8

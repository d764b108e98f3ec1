/-! THE CLASS'S SHAPES: a new one, a new gap of one -/
theorem c_E_kd {ρ : Nat → Option xk} {R : Nat → Int → Option Nat} {x : Nat} (h : c_E ρ R x) : xm_kd tb_K0 x ρ = some (.inr (4, [(3, 0, 0), (0, 0, 1)])) := h.1
theorem c_T_kd {ρ : Nat → Option xk} {R : Nat → Int → Option Nat} {q : Nat} (h : c_T ρ R q) : xm_kd tb_K0 (q + 174) ρ = some (.inr (10, c_TF)) := tb_dyn h.1
theorem c_S_kd {ρ : Nat → Option xk} {R : Nat → Int → Option Nat} {y : Nat} (h : c_S ρ R y) : xm_kd tb_K0 y ρ = some (.inr (11, [(0, 0, 0), (3, 0, 1), (0, 0, 2), (3, 0, 3), (3, 0, 4)])) := h.1.1
/-- one shape's room changes -/
theorem x_pS_d {R R' : Nat → Int → Option Nat} {i δ : Int} (ho : ∀ j, j ≠ i → 0 ≤ j → j < 20 → x_ps R' (R' 34 j) = x_ps R (R 34 j)) (hi : x_ps R' (R' 34 i) = x_ps R (R 34 i) + δ) : ∀ N : Nat, N ≤ 20 → (i < N → 0 ≤ i → x_pS R' N = x_pS R N + δ) ∧ (N ≤ i → x_pS R' N = x_pS R N)
  | 0, _ => ⟨fun h h0 => absurd h (by omega), fun _ => rfl⟩
  | N + 1, hN => by
    have ih := x_pS_d ho hi N (by omega)
    unfold x_pS
    by_cases h : (N : Int) = i
    · refine ⟨fun _ _ => ?_, fun q => absurd q (by omega)⟩
      rw [h, hi, ih.2 (by omega)]
      omega
    · rw [ho _ h (by omega) (by omega)]
      refine ⟨fun q q0 => ?_, fun q => ?_⟩
      · rw [ih.1 (by omega) q0]; omega
      · rw [ih.2 (by omega)]
theorem x_ps_o {e : Nat} {R R' : Nat → Int → Option Nat} (h : x_wR e R) {j : Int} (h0 : 0 ≤ j) (h1 : j < 20) (h34 : R' 34 j = R 34 j) (hd : ∀ p, R 34 j = some p → (∀ i, R' (p - 1) i = R (p - 1) i) ∧ ∀ g, R (p - 1) 4 = some g → ∀ i, R' (g - 1) i = R (g - 1) i) : x_ps R' (R' 34 j) = x_ps R (R 34 j) := by
  rw [h34]
  unfold x_ps
  split
  · rfl
  · rename_i p hp
    obtain ⟨a, b⟩ := hd p hp
    rw [a 4]
    split
    · rfl
    · rename_i g hg
      rw [show R' (g - 1) = R (g - 1) from funext (b g hg)]
theorem x_cnt_n {f : Int → Option Nat} (h : ∀ j, f j = none) : ∀ N : Nat, x_cnt f N = 0
  | 0 => rfl
  | N + 1 => by
    unfold x_cnt
    rw [x_cnt_n h N, h]
    rfl
-- a new shape
set_option maxRecDepth 100000 in
theorem rm_s {ρ ρ' : Nat → Option xk} {e sl : Nat} {M M' : Nat → Int → Int} {R R' : Nat → Int → Option Nat} {t k : Int} (h : rm t (ρ, e, M, R, sl)) (hn : 0 ≤ k ∧ k < 20) (h0 : R 34 k = none) (h1 : R' 34 k = some (e + 175)) (h2 : R' (e + 174) 4 = some (e + 179)) (h3 : ∀ j, R' (e + 178) j = none) (hd : ∀ x i, x < e + 174 → (x ≠ 34 ∨ i ≠ k) → R' x i = R x i) {sl' : Nat} (hs : sl' ≤ sl + 22500) : rm t (ρ', e + 5, M', R', sl') := by
  obtain ⟨r1, r2, r3⟩ := h
  dsimp only at r1 r2 r3
  have e7 : R' 7 = R 7 := funext fun i => hd 7 i (by omega) (by omega)
  have e33 : R' 33 = R 33 := funext fun i => hd 33 i (by omega) (by omega)
  have e38 : R' 38 = R 38 := funext fun i => hd 38 i (by omega) (by omega)
  have hS := (x_pS_d (R := R) (R' := R') (i := k) (δ := -5) (fun j j1 j2 j3 => x_ps_o r3 j2 j3 (hd 34 j (by omega) (.inr j1)) (fun p hp => by
    obtain ⟨a, b, c⟩ := x_wR_1 r3 j2 j3 hp
    exact ⟨fun i => hd _ i (by omega) (by omega), fun g hg i => by
      obtain ⟨a2, b2⟩ := c g hg
      exact hd _ i (by omega) (by omega)⟩)) (by
    rw [h1, h0]
    show (match R' (e + 175 - 1) 4 with
      | none => 0
      | some g => 2 * (4 - x_cnt (R' (g - 1)) 4)) = (13 : Int) + -5
    rw [show e + 175 - 1 = e + 174 by omega, h2]
    show 2 * (4 - x_cnt (R' (e + 179 - 1)) 4) = (13 : Int) + -5
    rw [show e + 179 - 1 = e + 178 by omega, x_cnt_n h3]
    decide) 20 (by omega)).1 (by omega) hn.1
  have hp : x_po R' = x_po R - 5 := by
    unfold x_po
    rw [hS, e7, e33, e38]
    omega
  refine ⟨?_, ?_, x_wR_2 (fun j p j0 j1 hp => ?_)⟩
  · dsimp only
    rw [hp]
    omega
  · show sl' ≤ 159584 + 4500 * (e + 5)
    rw [Nat.mul_add]
    omega
  · replace hp : R' 34 j = some p := hp
    show 174 < p ∧ p < e + 5 + 175 ∧ ∀ g, R' (p - 1) 4 = some g → 174 < g ∧ g < e + 5 + 175
    by_cases hj : j = k
    · rw [hj, h1] at hp
      cases hp
      refine ⟨by omega, by omega, fun g hg => ?_⟩
      rw [show e + 175 - 1 = e + 174 by omega, h2] at hg
      cases hg
      omega
    · rw [hd 34 j (by omega) (.inr hj)] at hp
      obtain ⟨a, b, c⟩ := x_wR_1 r3 j0 j1 hp
      refine ⟨a, by omega, fun g hg => ?_⟩
      rw [hd (p - 1) 4 (by omega) (by omega)] at hg
      obtain ⟨a2, b2⟩ := c g hg
      omega
/-- a new gap -/
theorem rm_g {ρ ρ' : Nat → Option xk} {e sl : Nat} {M M' : Nat → Int → Int} {R R' : Nat → Int → Option Nat} {t k j : Int} {y p : Nat} {ow : Nat → Int} (h : rm t (ρ, e, M, R, sl)) (hH : kSh ρ e R ow) (hn : 0 ≤ k ∧ k < 20) (hj : 0 ≤ j ∧ j < 4) (hy : R 34 k = some (y + 1)) (h0 : R (y + 4) j = none) (h1 : R' (y + 4) j = some p) (hd : ∀ x i, x < e + 174 → (x ≠ y + 4 ∨ i ≠ j) → R' x i = R x i) : rm t (ρ', e + 2, M', R', sl + 28) := by
  obtain ⟨r1, r2, r3⟩ := h
  dsimp only at r1 r2 r3
  have hyy : c_S ρ R y ∧ (174 ≤ y ∧ y + 5 ≤ e + 174) ∧ (∀ z, y ≤ z → z < y + 5 → ow z = 1000 + 10 * k) := by
    rcases hH k hn.1 hn.2 with q | ⟨y', q1, q2, q3, q4, -⟩
    · rw [hy] at q; cases q
    · rw [hy] at q1
      cases q1
      exact ⟨q2, q3, q4⟩
  obtain ⟨yS, yb, yo⟩ := hyy
  have y4 := yS.2.2.2
  have e7 : R' 7 = R 7 := funext fun i => hd 7 i (by omega) (by omega)
  have e33 : R' 33 = R 33 := funext fun i => hd 33 i (by omega) (by omega)
  have e38 : R' 38 = R 38 := funext fun i => hd 38 i (by omega) (by omega)
  have h34 : ∀ j, R' 34 j = R 34 j := fun j => hd 34 j (by omega) (by omega)
  have hS := (x_pS_d (R := R) (R' := R') (i := k) (δ := -2) (fun i i1 i2 i3 => x_ps_o r3 i2 i3 (h34 i) (fun p hp => by
    rcases hH i i2 i3 with q | ⟨y', q1, q2, q3, q4, -⟩
    · rw [hp] at q; cases q
    · rw [hp] at q1
      cases q1
      have ny : y' + 4 ≠ y + 4 := fun z => by
        have a1 := q4 (y' + 4) (by omega) (by omega)
        have a2 := yo (y + 4) (by omega) (by omega)
        rw [z] at a1
        omega
      have ny0 : y' ≠ y + 4 := fun z => by
        have a1 := q4 y' (by omega) (by omega)
        have a2 := yo (y + 4) (by omega) (by omega)
        rw [z] at a1
        omega
      refine ⟨fun a => hd _ a (by omega) (.inl (by omega)), fun g hg a => ?_⟩
      rw [show y' + 1 - 1 = y' by omega, q2.2.2.2] at hg
      cases hg
      exact hd _ a (by omega) (.inl (by omega)))) (by
    rw [h34 k, hy]
    show (match R' (y + 1 - 1) 4 with
      | none => 0
      | some g => 2 * (4 - x_cnt (R' (g - 1)) 4)) = (match R (y + 1 - 1) 4 with
      | none => 0
      | some g => 2 * (4 - x_cnt (R (g - 1)) 4)) + -2
    rw [show y + 1 - 1 = y by omega, hd y 4 (by omega) (.inl (by omega)), y4]
    show 2 * (4 - x_cnt (R' (y + 5 - 1)) 4) = 2 * (4 - x_cnt (R (y + 5 - 1)) 4) + -2
    rw [show y + 5 - 1 = y + 4 by omega]
    have := (x_cnt_up h0 h1 (fun i hi => hd (y + 4) i (by omega) (.inr hi)) 4).1 (by omega) hj.1
    omega) 20 (by omega)).1 (by omega) hn.1
  have hp : x_po R' = x_po R - 2 := by
    unfold x_po
    rw [hS, e7, e33, e38]
    omega
  refine ⟨?_, ?_, x_wR_2 (fun i p i0 i1 hp => ?_)⟩
  · dsimp only
    rw [hp]
    omega
  · dsimp only
    omega
  · replace hp : R' 34 i = some p := hp
    show 174 < p ∧ p < e + 2 + 175 ∧ ∀ g, R' (p - 1) 4 = some g → 174 < g ∧ g < e + 2 + 175
    rw [h34] at hp
    obtain ⟨a, b, c⟩ := x_wR_1 r3 i0 i1 hp
    refine ⟨a, by omega, fun g hg => ?_⟩
    by_cases hpy : p - 1 = y + 4
    · exfalso
      rcases hH i i0 i1 with q | ⟨y', q1, q2, q3, q4, -⟩
      · rw [hp] at q; cases q
      · rw [hp] at q1
        cases q1
        have a0 := q2.1.1
        have a1 := yS.1.2.2.2
        rw [show y' = y + 4 by omega, a1] at a0
        cases a0
    · rw [hd (p - 1) 4 (by omega) (.inl hpy)] at hg
      obtain ⟨a2, b2⟩ := c g hg
      omega
/-- all of them are there still, and a new shape k at e + 174 -/
theorem kHp_sh {ρ ρ' : Nat → Option xk} {e sl sl' : Nat} {R R' : Nat → Int → Option Nat} {ow ow' : Nat → Int} {n : Int} (hH : kHp ρ e R ow) (hg : kG ρ e R sl ow ρ' (e + 5) R' sl' ow') (hR : ∀ x i, x < e + 174 → (x ≠ 34 ∨ i ≠ n) → R' x i = R x i) (hn : R' 34 n = some (e + 175)) (hc : c_S ρ' R' (e + 174)) (ho : ∀ z, e + 174 ≤ z → z < e + 179 → ow' z = 1000 + 10 * n) (hz : ∀ j, R' (e + 178) j = none) : kHp ρ' (e + 5) R' ow' := by
  obtain ⟨h1, h2, h3⟩ := hH
  have og := hg.2.2.2.1
  refine ⟨fun k k0 k1 => ?_, fun i i0 i1 => ?_, fun i hi => ?_⟩
  · rcases h1 k k0 k1 with h | ⟨x, x1, x2, x3, x4⟩
    · exact .inl (by rw [hR 33 k (by omega) (by omega)]; exact h)
    · exact .inr ⟨x, by rw [hR 33 k (by omega) (by omega)]; exact x1, c_E_g x2 hg x4, ⟨by rw [og x (by omega)]; exact x3.1, by rw [og (x + 1) (by omega)]; exact x3.2⟩, by omega⟩
  · by_cases hi : i = n
    · subst hi
      exact .inr ⟨e + 174, hn, hc, by omega, fun z z0 z1 => ho z z0 (by omega), fun j _ _ => .inl (hz j)⟩
    · rcases h2 i i0 i1 with h | ⟨y, y1, y2, y3, y4, y5⟩
      · exact .inl (by rw [hR 34 i (by omega) (.inr hi)]; exact h)
      · refine .inr ⟨y, by rw [hR 34 i (by omega) (.inr hi)]; exact y1, c_S_g y2 hg y3, by omega, fun z z0 z1 => by rw [og z (by omega)]; exact y4 z z0 z1, fun j j0 j1 => ?_⟩
        rcases y5 j j0 j1 with h | ⟨x, x1, x2, x3, x4⟩
        · exact .inl (by rw [hR (y + 4) j (by omega) (by omega)]; exact h)
        · exact .inr ⟨x, by rw [hR (y + 4) j (by omega) (by omega)]; exact x1, c_E_g x2 hg x4, ⟨by rw [og x (by omega)]; exact x3.1, by rw [og (x + 1) (by omega)]; exact x3.2⟩, by omega⟩
  · rw [hR 16 i (by omega) (by omega)]
    exact h3 i hi
/-- a new gap j of shape n at y -/
theorem kHp_gp {ρ ρ' : Nat → Option xk} {e sl sl' : Nat} {R R' : Nat → Int → Option Nat} {ow ow' : Nat → Int} {n jj : Int} {yy : Nat} (hH : kHp ρ e R ow) (hg : kG ρ e R sl ow ρ' (e + 2) R' sl' ow') (hy : R 34 n = some (yy + 1)) (hn : 0 ≤ n ∧ n < 20) (hR : ∀ x i, x < e + 174 → (x ≠ yy + 4 ∨ i ≠ jj) → R' x i = R x i) (hnw : R' (yy + 4) jj = some (e + 175)) (hc : c_E ρ' R' (e + 174)) (ho : ow' (e + 174) = 1001 + 10 * n + jj ∧ ow' (e + 175) = 1001 + 10 * n + jj) : kHp ρ' (e + 2) R' ow' := by
  obtain ⟨h1, h2, h3⟩ := hH
  have og := hg.2.2.2.1
  obtain ⟨yb, yo⟩ : (174 ≤ yy ∧ yy + 5 ≤ e + 174) ∧ (∀ z, yy ≤ z → z < yy + 5 → ow z = 1000 + 10 * n) := by
    rcases h2 n hn.1 hn.2 with q | ⟨y', q1, q2, q3, q4, -⟩
    · rw [hy] at q; cases q
    · rw [hy] at q1
      cases q1
      exact ⟨q3, q4⟩
  refine ⟨fun k k0 k1 => ?_, fun i i0 i1 => ?_, fun i hi => ?_⟩
  · rcases h1 k k0 k1 with h | ⟨x, x1, x2, x3, x4⟩
    · exact .inl (by rw [hR 33 k (by omega) (by omega)]; exact h)
    · exact .inr ⟨x, by rw [hR 33 k (by omega) (by omega)]; exact x1, c_E_g x2 hg x4, ⟨by rw [og x (by omega)]; exact x3.1, by rw [og (x + 1) (by omega)]; exact x3.2⟩, by omega⟩
  · rcases h2 i i0 i1 with h | ⟨y, y1, y2, y3, y4, y5⟩
    · exact .inl (by rw [hR 34 i (by omega) (by omega)]; exact h)
    · refine .inr ⟨y, by rw [hR 34 i (by omega) (by omega)]; exact y1, c_S_g y2 hg y3, by omega, fun z z0 z1 => by rw [og z (by omega)]; exact y4 z z0 z1, fun j j0 j1 => ?_⟩
      by_cases hq : y + 4 = yy + 4 ∧ j = jj
      · have hin : i = n := by
          have a1 := y4 (y + 4) (by omega) (by omega)
          have a2 := yo (yy + 4) (by omega) (by omega)
          rw [hq.1] at a1
          omega
        rw [hq.1, hq.2, hin]
        exact .inr ⟨e + 174, hnw, hc, ho, by omega⟩
      · rcases y5 j j0 j1 with h | ⟨x, x1, x2, x3, x4⟩
        · exact .inl (by rw [hR (y + 4) j (by omega) (by omega)]; exact h)
        · exact .inr ⟨x, by rw [hR (y + 4) j (by omega) (by omega)]; exact x1, c_E_g x2 hg x4, ⟨by rw [og x (by omega)]; exact x3.1, by rw [og (x + 1) (by omega)]; exact x3.2⟩, by omega⟩
  · rw [hR 16 i (by omega) (by omega)]
    exact h3 i hi
section
variable {ρ : Nat → Option xk} {e sl d : Nat} {M : Nat → Int → Int} {R : Nat → Int → Option Nat} {eX : Nat → Nat × (Nat → Int32)} {Q : xK}
variable {ow : Nat → Int}
set_option linter.unusedSimpArgs false in
set_option maxRecDepth 100000 in
set_option maxHeartbeats 4000000 in
theorem n_263a (hE : ∀ j, (eX j).1 ≤ 1000000) {n : Int} {y : Nat} (hn : M 8 8 = n) (hn1 : 0 ≤ n ∧ n < 20) (hR : R 34 n = some (y + 1)) (hQ : Q (.inl (some (.inr (.inr (some (y + 1)))))) (ρ, e, x_up M 8 8 (n + 1), R, sl)) : xm_call tb_P eX tb_K0 174 (d + 4) 263 [.inr (.inr (some 9))] (ρ, e, M, R, sl) Q := by
  subst hn
  have hw : w32 (M 8 8 + 1) = M 8 8 + 1 := by simp (disch := omega) only [w32_id]
  have hidx : w32 (x_up M 8 8 (w32 (M 8 8 + 1)) 8 8 - 1) = M 8 8 := by
    rw [hw, x_up_s rfl]
    simp (disch := omega) only [w32_id]
    omega
  rw [← hw] at hQ
  refine xm_run hE (fun _ _ => none) (fun _ => true) (fun Ff C hF hC => ?_)
  (conv => whnf)
  repeat (first | (rw [hR]; (conv => whnf)) | (rw [hidx]; (conv => whnf)) | (refine br_t (by first | omega | (simp (disch := omega) only [w32_id, w64_id, x_up_p, x_up_s, x_up_o, x_fill_p, x_fill_i, x_fill_o, x_cpy_p, x_cpy_i, x_cpy_o, x_upR_p, x_upR_s, x_upR_o, x_zM_p, x_zR_p, x_set_p, x_set_s, tb_CM, tb_SM, xm_cats, xm_cat, List.length_cons, List.length_nil, x_cmp_ge, x_cmp_le, x_cmp_gt, x_cmp_lt, x_cmp_eq, not_true_eq_false, not_false_eq_true, true_and, and_true, Int.add_zero, Int.zero_add, Int.cast_ofNat_Int, Int.sub_zero] <;> omega) | (simp (disch := omega) only [w32_id, w64_id, x_up_p, x_up_s, x_up_o, x_fill_p, x_fill_i, x_fill_o, x_cpy_p, x_cpy_i, x_cpy_o, x_upR_p, x_upR_s, x_upR_o, x_zM_p, x_zR_p, x_set_p, x_set_s, tb_CM, tb_SM, xm_cats, xm_cat, List.length_cons, List.length_nil, x_cmp_ge, x_cmp_le, x_cmp_gt, x_cmp_lt, x_cmp_eq, not_true_eq_false, not_false_eq_true, true_and, and_true, Int.add_zero, Int.zero_add, Int.cast_ofNat_Int, Int.sub_zero]; done) | fail) ?_; (conv => whnf)) | (refine br_f (by first | omega | (simp (disch := omega) only [w32_id, w64_id, x_up_p, x_up_s, x_up_o, x_fill_p, x_fill_i, x_fill_o, x_cpy_p, x_cpy_i, x_cpy_o, x_upR_p, x_upR_s, x_upR_o, x_zM_p, x_zR_p, x_set_p, x_set_s, tb_CM, tb_SM, xm_cats, xm_cat, List.length_cons, List.length_nil, x_cmp_ge, x_cmp_le, x_cmp_gt, x_cmp_lt, x_cmp_eq, not_true_eq_false, not_false_eq_true, true_and, and_true, Int.add_zero, Int.zero_add, Int.cast_ofNat_Int, Int.sub_zero] <;> omega) | (simp (disch := omega) only [w32_id, w64_id, x_up_p, x_up_s, x_up_o, x_fill_p, x_fill_i, x_fill_o, x_cpy_p, x_cpy_i, x_cpy_o, x_upR_p, x_upR_s, x_upR_o, x_zM_p, x_zR_p, x_set_p, x_set_s, tb_CM, tb_SM, xm_cats, xm_cat, List.length_cons, List.length_nil, x_cmp_ge, x_cmp_le, x_cmp_gt, x_cmp_lt, x_cmp_eq, not_true_eq_false, not_false_eq_true, true_and, and_true, Int.add_zero, Int.zero_add, Int.cast_ofNat_Int, Int.sub_zero]; done) | fail) ?_; (conv => whnf)) | (refine sw_in (by first | omega | (simp (disch := omega) only [w32_id, w64_id, x_up_p, x_up_s, x_up_o, x_fill_p, x_fill_i, x_fill_o, x_cpy_p, x_cpy_i, x_cpy_o, x_upR_p, x_upR_s, x_upR_o, x_zM_p, x_zR_p, x_set_p, x_set_s, tb_CM, tb_SM, xm_cats, xm_cat, List.length_cons, List.length_nil, x_cmp_ge, x_cmp_le, x_cmp_gt, x_cmp_lt, x_cmp_eq, not_true_eq_false, not_false_eq_true, true_and, and_true, Int.add_zero, Int.zero_add, Int.cast_ofNat_Int, Int.sub_zero] <;> omega) | (simp (disch := omega) only [w32_id, w64_id, x_up_p, x_up_s, x_up_o, x_fill_p, x_fill_i, x_fill_o, x_cpy_p, x_cpy_i, x_cpy_o, x_upR_p, x_upR_s, x_upR_o, x_zM_p, x_zR_p, x_set_p, x_set_s, tb_CM, tb_SM, xm_cats, xm_cat, List.length_cons, List.length_nil, x_cmp_ge, x_cmp_le, x_cmp_gt, x_cmp_lt, x_cmp_eq, not_true_eq_false, not_false_eq_true, true_and, and_true, Int.add_zero, Int.zero_add, Int.cast_ofNat_Int, Int.sub_zero]; done) | fail) ?_; (conv => whnf)) | (refine sw_hit (by first | omega | (simp (disch := omega) only [w32_id, w64_id, x_up_p, x_up_s, x_up_o, x_fill_p, x_fill_i, x_fill_o, x_cpy_p, x_cpy_i, x_cpy_o, x_upR_p, x_upR_s, x_upR_o, x_zM_p, x_zR_p, x_set_p, x_set_s, tb_CM, tb_SM, xm_cats, xm_cat, List.length_cons, List.length_nil, x_cmp_ge, x_cmp_le, x_cmp_gt, x_cmp_lt, x_cmp_eq, not_true_eq_false, not_false_eq_true, true_and, and_true, Int.add_zero, Int.zero_add, Int.cast_ofNat_Int, Int.sub_zero] <;> omega) | (simp (disch := omega) only [w32_id, w64_id, x_up_p, x_up_s, x_up_o, x_fill_p, x_fill_i, x_fill_o, x_cpy_p, x_cpy_i, x_cpy_o, x_upR_p, x_upR_s, x_upR_o, x_zM_p, x_zR_p, x_set_p, x_set_s, tb_CM, tb_SM, xm_cats, xm_cat, List.length_cons, List.length_nil, x_cmp_ge, x_cmp_le, x_cmp_gt, x_cmp_lt, x_cmp_eq, not_true_eq_false, not_false_eq_true, true_and, and_true, Int.add_zero, Int.zero_add, Int.cast_ofNat_Int, Int.sub_zero]; done) | fail) ?_ (sw_vac (by first | omega | (simp (disch := omega) only [w32_id, w64_id, x_up_p, x_up_s, x_up_o, x_fill_p, x_fill_i, x_fill_o, x_cpy_p, x_cpy_i, x_cpy_o, x_upR_p, x_upR_s, x_upR_o, x_zM_p, x_zR_p, x_set_p, x_set_s, tb_CM, tb_SM, xm_cats, xm_cat, List.length_cons, List.length_nil, x_cmp_ge, x_cmp_le, x_cmp_gt, x_cmp_lt, x_cmp_eq, not_true_eq_false, not_false_eq_true, true_and, and_true, Int.add_zero, Int.zero_add, Int.cast_ofNat_Int, Int.sub_zero] <;> omega) | (simp (disch := omega) only [w32_id, w64_id, x_up_p, x_up_s, x_up_o, x_fill_p, x_fill_i, x_fill_o, x_cpy_p, x_cpy_i, x_cpy_o, x_upR_p, x_upR_s, x_upR_o, x_zM_p, x_zR_p, x_set_p, x_set_s, tb_CM, tb_SM, xm_cats, xm_cat, List.length_cons, List.length_nil, x_cmp_ge, x_cmp_le, x_cmp_gt, x_cmp_lt, x_cmp_eq, not_true_eq_false, not_false_eq_true, true_and, and_true, Int.add_zero, Int.zero_add, Int.cast_ofNat_Int, Int.sub_zero]; done) | fail)); (conv => whnf)) | (refine sw_next (by first | omega | (simp (disch := omega) only [w32_id, w64_id, x_up_p, x_up_s, x_up_o, x_fill_p, x_fill_i, x_fill_o, x_cpy_p, x_cpy_i, x_cpy_o, x_upR_p, x_upR_s, x_upR_o, x_zM_p, x_zR_p, x_set_p, x_set_s, tb_CM, tb_SM, xm_cats, xm_cat, List.length_cons, List.length_nil, x_cmp_ge, x_cmp_le, x_cmp_gt, x_cmp_lt, x_cmp_eq, not_true_eq_false, not_false_eq_true, true_and, and_true, Int.add_zero, Int.zero_add, Int.cast_ofNat_Int, Int.sub_zero] <;> omega) | (simp (disch := omega) only [w32_id, w64_id, x_up_p, x_up_s, x_up_o, x_fill_p, x_fill_i, x_fill_o, x_cpy_p, x_cpy_i, x_cpy_o, x_upR_p, x_upR_s, x_upR_o, x_zM_p, x_zR_p, x_set_p, x_set_s, tb_CM, tb_SM, xm_cats, xm_cat, List.length_cons, List.length_nil, x_cmp_ge, x_cmp_le, x_cmp_gt, x_cmp_lt, x_cmp_eq, not_true_eq_false, not_false_eq_true, true_and, and_true, Int.add_zero, Int.zero_add, Int.cast_ofNat_Int, Int.sub_zero]; done) | fail) ?_; (conv => whnf)) | (refine sw_def (by first | omega | (simp (disch := omega) only [w32_id, w64_id, x_up_p, x_up_s, x_up_o, x_fill_p, x_fill_i, x_fill_o, x_cpy_p, x_cpy_i, x_cpy_o, x_upR_p, x_upR_s, x_upR_o, x_zM_p, x_zR_p, x_set_p, x_set_s, tb_CM, tb_SM, xm_cats, xm_cat, List.length_cons, List.length_nil, x_cmp_ge, x_cmp_le, x_cmp_gt, x_cmp_lt, x_cmp_eq, not_true_eq_false, not_false_eq_true, true_and, and_true, Int.add_zero, Int.zero_add, Int.cast_ofNat_Int, Int.sub_zero] <;> omega) | (simp (disch := omega) only [w32_id, w64_id, x_up_p, x_up_s, x_up_o, x_fill_p, x_fill_i, x_fill_o, x_cpy_p, x_cpy_i, x_cpy_o, x_upR_p, x_upR_s, x_upR_o, x_zM_p, x_zR_p, x_set_p, x_set_s, tb_CM, tb_SM, xm_cats, xm_cat, List.length_cons, List.length_nil, x_cmp_ge, x_cmp_le, x_cmp_gt, x_cmp_lt, x_cmp_eq, not_true_eq_false, not_false_eq_true, true_and, and_true, Int.add_zero, Int.zero_add, Int.cast_ofNat_Int, Int.sub_zero]; done) | fail) ?_; (conv => whnf)) | (refine And.intro (by first | omega | (simp (disch := omega) only [w32_id, w64_id, x_up_p, x_up_s, x_up_o, x_fill_p, x_fill_i, x_fill_o, x_cpy_p, x_cpy_i, x_cpy_o, x_upR_p, x_upR_s, x_upR_o, x_zM_p, x_zR_p, x_set_p, x_set_s, tb_CM, tb_SM, xm_cats, xm_cat, List.length_cons, List.length_nil, x_cmp_ge, x_cmp_le, x_cmp_gt, x_cmp_lt, x_cmp_eq, not_true_eq_false, not_false_eq_true, true_and, and_true, Int.add_zero, Int.zero_add, Int.cast_ofNat_Int, Int.sub_zero] <;> omega) | (simp (disch := omega) only [w32_id, w64_id, x_up_p, x_up_s, x_up_o, x_fill_p, x_fill_i, x_fill_o, x_cpy_p, x_cpy_i, x_cpy_o, x_upR_p, x_upR_s, x_upR_o, x_zM_p, x_zR_p, x_set_p, x_set_s, tb_CM, tb_SM, xm_cats, xm_cat, List.length_cons, List.length_nil, x_cmp_ge, x_cmp_le, x_cmp_gt, x_cmp_lt, x_cmp_eq, not_true_eq_false, not_false_eq_true, true_and, and_true, Int.add_zero, Int.zero_add, Int.cast_ofNat_Int, Int.sub_zero]; done) | fail) ?_; (conv => whnf)))
  exact hQ
set_option linter.unusedSimpArgs false in
set_option maxRecDepth 100000 in
set_option maxHeartbeats 4000000 in
theorem n_263b (hE : ∀ j, (eX j).1 ≤ 1000000) {n : Int} (hn : M 8 8 = n) (hn1 : 0 ≤ n ∧ n < 20) (hR : R 34 n = none) (hr : e + 180 ≤ 601024 ∧ sl + 100 ≤ 7293034) (hQ : ∀ ρ' M' R', (∀ i, i < e → ρ' i = ρ i) → (∀ p, p ≠ 8 → p < e + 174 → M' p = M p) → (∀ j, j ≠ 8 → M' 8 j = M 8 j) → M' 8 8 = n + 1 → (∀ x i, x < e + 174 → (x ≠ 34 ∨ i ≠ n) → R' x i = R x i) → R' 34 n = some (e + 175) → c_S ρ' R' (e + 174) → (∀ j, R' (e + 178) j = none) → Q (.inl (some (.inr (.inr (some (e + 175)))))) (ρ', e + 5, M', R', sl + 41)) : xm_call tb_P eX tb_K0 174 (d + 4) 263 [.inr (.inr (some 9))] (ρ, e, M, R, sl) Q := by
  have v4 : tb_V4.length = 2 := rfl
  have v11 : tb_V11.length = 5 := rfl
  have h10 : x_new ρ e (.inr (11, xm_lay tb_V11 0)) e = some (.inr (11, xm_lay tb_V11 0)) := by unfold x_new; rw [if_pos rfl]
  have h20 : x_new (x_new ρ e (.inr (11, xm_lay tb_V11 0))) (e + 1) (.inr (4, xm_lay tb_V4 0)) e = some (.inr (11, xm_lay tb_V11 0)) := by unfold x_new; rw [if_neg (by omega), if_pos rfl]
  have h21 : x_new (x_new ρ e (.inr (11, xm_lay tb_V11 0))) (e + 1) (.inr (4, xm_lay tb_V4 0)) (e + 1) = some (.inr (4, xm_lay tb_V4 0)) := by unfold x_new; rw [if_pos rfl]
  have h30 : x_new (x_new (x_new ρ e (.inr (11, xm_lay tb_V11 0))) (e + 1) (.inr (4, xm_lay tb_V4 0))) (e + 1 + 1) (.inl (1, 26)) e = some (.inr (11, xm_lay tb_V11 0)) := by unfold x_new; rw [if_neg (by omega), if_neg (by omega), if_pos rfl]
  have h31 : x_new (x_new (x_new ρ e (.inr (11, xm_lay tb_V11 0))) (e + 1) (.inr (4, xm_lay tb_V4 0))) (e + 1 + 1) (.inl (1, 26)) (e + 1) = some (.inr (4, xm_lay tb_V4 0)) := by unfold x_new; rw [if_neg (by omega), if_pos rfl]
  have h40 : x_new (x_new (x_new (x_new ρ e (.inr (11, xm_lay tb_V11 0))) (e + 1) (.inr (4, xm_lay tb_V4 0))) (e + 1 + 1) (.inl (1, 26))) (e + 1 + 1 + 1) (.inl (0, 4)) e = some (.inr (11, xm_lay tb_V11 0)) := by unfold x_new; rw [if_neg (by omega), if_neg (by omega), if_neg (by omega)]; (first | rw [if_pos rfl] | simp only [if_true])
  have h50 : x_new (x_new (x_new (x_new (x_new ρ e (.inr (11, xm_lay tb_V11 0))) (e + 1) (.inr (4, xm_lay tb_V4 0))) (e + 1 + 1) (.inl (1, 26))) (e + 1 + 1 + 1) (.inl (0, 4))) (e + 1 + 1 + 1 + 1) (.inl (5, 4)) e = some (.inr (11, xm_lay tb_V11 0)) := by unfold x_new; rw [if_neg (by omega), if_neg (by omega), if_neg (by omega), if_neg (by omega), if_pos rfl]
  subst hn
  have hw : w32 (M 8 8 + 1) = M 8 8 + 1 := by simp (disch := omega) only [w32_id]
  refine xm_run hE (fun _ _ => none) (fun _ => true) (fun Ff C hF hC => ?_)
  (conv => whnf)
  repeat (first | (refine x_go (x_rc rfl (tb_dyn h10) rfl) ?_; (conv => whnf)) | (refine x_go (x_rc rfl (tb_dyn h20) rfl) ?_; (conv => whnf)) | (refine x_go (x_rc rfl (tb_dyn h21) rfl) ?_; (conv => whnf)) | (refine x_go (x_rc rfl (tb_dyn h30) rfl) ?_; (conv => whnf)) | (refine x_go (x_rc rfl (tb_dyn h31) rfl) ?_; (conv => whnf)) | (refine x_go (x_rc rfl (tb_dyn h40) rfl) ?_; (conv => whnf)) | (refine x_go (x_rc rfl (tb_dyn h50) rfl) ?_; (conv => whnf)) | (rw [hR]; (conv => whnf)) | (rw [tb_dyn h10]; (conv => whnf)) | (rw [tb_dyn h20]; (conv => whnf)) | (rw [tb_dyn h21]; (conv => whnf)) | (rw [tb_dyn h30]; (conv => whnf)) | (rw [tb_dyn h31]; (conv => whnf)) | (rw [tb_dyn h40]; (conv => whnf)) | (rw [tb_dyn h50]; (conv => whnf)) | (refine br_t (by first | omega | (simp (disch := omega) only [w32_id, w64_id, x_up_p, x_up_s, x_up_o, x_fill_p, x_fill_i, x_fill_o, x_cpy_p, x_cpy_i, x_cpy_o, x_upR_p, x_upR_s, x_upR_o, x_zM_p, x_zR_p, x_set_p, x_set_s, tb_CM, tb_SM, xm_cats, xm_cat, List.length_cons, List.length_nil, x_cmp_ge, x_cmp_le, x_cmp_gt, x_cmp_lt, x_cmp_eq, not_true_eq_false, not_false_eq_true, true_and, and_true, Int.add_zero, Int.zero_add, Int.cast_ofNat_Int, Int.sub_zero, v4, v11] <;> omega) | (simp (disch := omega) only [w32_id, w64_id, x_up_p, x_up_s, x_up_o, x_fill_p, x_fill_i, x_fill_o, x_cpy_p, x_cpy_i, x_cpy_o, x_upR_p, x_upR_s, x_upR_o, x_zM_p, x_zR_p, x_set_p, x_set_s, tb_CM, tb_SM, xm_cats, xm_cat, List.length_cons, List.length_nil, x_cmp_ge, x_cmp_le, x_cmp_gt, x_cmp_lt, x_cmp_eq, not_true_eq_false, not_false_eq_true, true_and, and_true, Int.add_zero, Int.zero_add, Int.cast_ofNat_Int, Int.sub_zero, v4, v11]; done) | fail) ?_; (conv => whnf)) | (refine br_f (by first | omega | (simp (disch := omega) only [w32_id, w64_id, x_up_p, x_up_s, x_up_o, x_fill_p, x_fill_i, x_fill_o, x_cpy_p, x_cpy_i, x_cpy_o, x_upR_p, x_upR_s, x_upR_o, x_zM_p, x_zR_p, x_set_p, x_set_s, tb_CM, tb_SM, xm_cats, xm_cat, List.length_cons, List.length_nil, x_cmp_ge, x_cmp_le, x_cmp_gt, x_cmp_lt, x_cmp_eq, not_true_eq_false, not_false_eq_true, true_and, and_true, Int.add_zero, Int.zero_add, Int.cast_ofNat_Int, Int.sub_zero, v4, v11] <;> omega) | (simp (disch := omega) only [w32_id, w64_id, x_up_p, x_up_s, x_up_o, x_fill_p, x_fill_i, x_fill_o, x_cpy_p, x_cpy_i, x_cpy_o, x_upR_p, x_upR_s, x_upR_o, x_zM_p, x_zR_p, x_set_p, x_set_s, tb_CM, tb_SM, xm_cats, xm_cat, List.length_cons, List.length_nil, x_cmp_ge, x_cmp_le, x_cmp_gt, x_cmp_lt, x_cmp_eq, not_true_eq_false, not_false_eq_true, true_and, and_true, Int.add_zero, Int.zero_add, Int.cast_ofNat_Int, Int.sub_zero, v4, v11]; done) | fail) ?_; (conv => whnf)) | (refine sw_in (by first | omega | (simp (disch := omega) only [w32_id, w64_id, x_up_p, x_up_s, x_up_o, x_fill_p, x_fill_i, x_fill_o, x_cpy_p, x_cpy_i, x_cpy_o, x_upR_p, x_upR_s, x_upR_o, x_zM_p, x_zR_p, x_set_p, x_set_s, tb_CM, tb_SM, xm_cats, xm_cat, List.length_cons, List.length_nil, x_cmp_ge, x_cmp_le, x_cmp_gt, x_cmp_lt, x_cmp_eq, not_true_eq_false, not_false_eq_true, true_and, and_true, Int.add_zero, Int.zero_add, Int.cast_ofNat_Int, Int.sub_zero, v4, v11] <;> omega) | (simp (disch := omega) only [w32_id, w64_id, x_up_p, x_up_s, x_up_o, x_fill_p, x_fill_i, x_fill_o, x_cpy_p, x_cpy_i, x_cpy_o, x_upR_p, x_upR_s, x_upR_o, x_zM_p, x_zR_p, x_set_p, x_set_s, tb_CM, tb_SM, xm_cats, xm_cat, List.length_cons, List.length_nil, x_cmp_ge, x_cmp_le, x_cmp_gt, x_cmp_lt, x_cmp_eq, not_true_eq_false, not_false_eq_true, true_and, and_true, Int.add_zero, Int.zero_add, Int.cast_ofNat_Int, Int.sub_zero, v4, v11]; done) | fail) ?_; (conv => whnf)) | (refine sw_hit (by first | omega | (simp (disch := omega) only [w32_id, w64_id, x_up_p, x_up_s, x_up_o, x_fill_p, x_fill_i, x_fill_o, x_cpy_p, x_cpy_i, x_cpy_o, x_upR_p, x_upR_s, x_upR_o, x_zM_p, x_zR_p, x_set_p, x_set_s, tb_CM, tb_SM, xm_cats, xm_cat, List.length_cons, List.length_nil, x_cmp_ge, x_cmp_le, x_cmp_gt, x_cmp_lt, x_cmp_eq, not_true_eq_false, not_false_eq_true, true_and, and_true, Int.add_zero, Int.zero_add, Int.cast_ofNat_Int, Int.sub_zero, v4, v11] <;> omega) | (simp (disch := omega) only [w32_id, w64_id, x_up_p, x_up_s, x_up_o, x_fill_p, x_fill_i, x_fill_o, x_cpy_p, x_cpy_i, x_cpy_o, x_upR_p, x_upR_s, x_upR_o, x_zM_p, x_zR_p, x_set_p, x_set_s, tb_CM, tb_SM, xm_cats, xm_cat, List.length_cons, List.length_nil, x_cmp_ge, x_cmp_le, x_cmp_gt, x_cmp_lt, x_cmp_eq, not_true_eq_false, not_false_eq_true, true_and, and_true, Int.add_zero, Int.zero_add, Int.cast_ofNat_Int, Int.sub_zero, v4, v11]; done) | fail) ?_ (sw_vac (by first | omega | (simp (disch := omega) only [w32_id, w64_id, x_up_p, x_up_s, x_up_o, x_fill_p, x_fill_i, x_fill_o, x_cpy_p, x_cpy_i, x_cpy_o, x_upR_p, x_upR_s, x_upR_o, x_zM_p, x_zR_p, x_set_p, x_set_s, tb_CM, tb_SM, xm_cats, xm_cat, List.length_cons, List.length_nil, x_cmp_ge, x_cmp_le, x_cmp_gt, x_cmp_lt, x_cmp_eq, not_true_eq_false, not_false_eq_true, true_and, and_true, Int.add_zero, Int.zero_add, Int.cast_ofNat_Int, Int.sub_zero, v4, v11] <;> omega) | (simp (disch := omega) only [w32_id, w64_id, x_up_p, x_up_s, x_up_o, x_fill_p, x_fill_i, x_fill_o, x_cpy_p, x_cpy_i, x_cpy_o, x_upR_p, x_upR_s, x_upR_o, x_zM_p, x_zR_p, x_set_p, x_set_s, tb_CM, tb_SM, xm_cats, xm_cat, List.length_cons, List.length_nil, x_cmp_ge, x_cmp_le, x_cmp_gt, x_cmp_lt, x_cmp_eq, not_true_eq_false, not_false_eq_true, true_and, and_true, Int.add_zero, Int.zero_add, Int.cast_ofNat_Int, Int.sub_zero, v4, v11]; done) | fail)); (conv => whnf)) | (refine sw_next (by first | omega | (simp (disch := omega) only [w32_id, w64_id, x_up_p, x_up_s, x_up_o, x_fill_p, x_fill_i, x_fill_o, x_cpy_p, x_cpy_i, x_cpy_o, x_upR_p, x_upR_s, x_upR_o, x_zM_p, x_zR_p, x_set_p, x_set_s, tb_CM, tb_SM, xm_cats, xm_cat, List.length_cons, List.length_nil, x_cmp_ge, x_cmp_le, x_cmp_gt, x_cmp_lt, x_cmp_eq, not_true_eq_false, not_false_eq_true, true_and, and_true, Int.add_zero, Int.zero_add, Int.cast_ofNat_Int, Int.sub_zero, v4, v11] <;> omega) | (simp (disch := omega) only [w32_id, w64_id, x_up_p, x_up_s, x_up_o, x_fill_p, x_fill_i, x_fill_o, x_cpy_p, x_cpy_i, x_cpy_o, x_upR_p, x_upR_s, x_upR_o, x_zM_p, x_zR_p, x_set_p, x_set_s, tb_CM, tb_SM, xm_cats, xm_cat, List.length_cons, List.length_nil, x_cmp_ge, x_cmp_le, x_cmp_gt, x_cmp_lt, x_cmp_eq, not_true_eq_false, not_false_eq_true, true_and, and_true, Int.add_zero, Int.zero_add, Int.cast_ofNat_Int, Int.sub_zero, v4, v11]; done) | fail) ?_; (conv => whnf)) | (refine sw_def (by first | omega | (simp (disch := omega) only [w32_id, w64_id, x_up_p, x_up_s, x_up_o, x_fill_p, x_fill_i, x_fill_o, x_cpy_p, x_cpy_i, x_cpy_o, x_upR_p, x_upR_s, x_upR_o, x_zM_p, x_zR_p, x_set_p, x_set_s, tb_CM, tb_SM, xm_cats, xm_cat, List.length_cons, List.length_nil, x_cmp_ge, x_cmp_le, x_cmp_gt, x_cmp_lt, x_cmp_eq, not_true_eq_false, not_false_eq_true, true_and, and_true, Int.add_zero, Int.zero_add, Int.cast_ofNat_Int, Int.sub_zero, v4, v11] <;> omega) | (simp (disch := omega) only [w32_id, w64_id, x_up_p, x_up_s, x_up_o, x_fill_p, x_fill_i, x_fill_o, x_cpy_p, x_cpy_i, x_cpy_o, x_upR_p, x_upR_s, x_upR_o, x_zM_p, x_zR_p, x_set_p, x_set_s, tb_CM, tb_SM, xm_cats, xm_cat, List.length_cons, List.length_nil, x_cmp_ge, x_cmp_le, x_cmp_gt, x_cmp_lt, x_cmp_eq, not_true_eq_false, not_false_eq_true, true_and, and_true, Int.add_zero, Int.zero_add, Int.cast_ofNat_Int, Int.sub_zero, v4, v11]; done) | fail) ?_; (conv => whnf)) | (refine And.intro (by first | omega | (simp (disch := omega) only [w32_id, w64_id, x_up_p, x_up_s, x_up_o, x_fill_p, x_fill_i, x_fill_o, x_cpy_p, x_cpy_i, x_cpy_o, x_upR_p, x_upR_s, x_upR_o, x_zM_p, x_zR_p, x_set_p, x_set_s, tb_CM, tb_SM, xm_cats, xm_cat, List.length_cons, List.length_nil, x_cmp_ge, x_cmp_le, x_cmp_gt, x_cmp_lt, x_cmp_eq, not_true_eq_false, not_false_eq_true, true_and, and_true, Int.add_zero, Int.zero_add, Int.cast_ofNat_Int, Int.sub_zero, v4, v11] <;> omega) | (simp (disch := omega) only [w32_id, w64_id, x_up_p, x_up_s, x_up_o, x_fill_p, x_fill_i, x_fill_o, x_cpy_p, x_cpy_i, x_cpy_o, x_upR_p, x_upR_s, x_upR_o, x_zM_p, x_zR_p, x_set_p, x_set_s, tb_CM, tb_SM, xm_cats, xm_cat, List.length_cons, List.length_nil, x_cmp_ge, x_cmp_le, x_cmp_gt, x_cmp_lt, x_cmp_eq, not_true_eq_false, not_false_eq_true, true_and, and_true, Int.add_zero, Int.zero_add, Int.cast_ofNat_Int, Int.sub_zero, v4, v11]; done) | fail) ?_; (conv => whnf)))
  try simp (disch := omega) only [w32_id, w64_id, x_up_p, x_up_s, x_up_o, x_fill_p, x_fill_i, x_fill_o, x_cpy_p, x_cpy_i, x_cpy_o, x_upR_p, x_upR_s, x_upR_o, x_zM_p, x_zR_p, x_set_p, x_set_s, tb_CM, tb_SM, xm_cats, xm_cat, List.length_cons, List.length_nil, x_cmp_ge, x_cmp_le, x_cmp_gt, x_cmp_lt, x_cmp_eq, not_true_eq_false, not_false_eq_true, true_and, and_true, Int.add_zero, Int.zero_add, Int.cast_ofNat_Int, Int.sub_zero, hw, v4, v11]
  first | (rw [x_upR_s (by omega)]) | skip
  refine hQ _ _ _ ?_ ?_ ?_ ?_ ?_ ?_ ?_ ?_
  · intro i hi
    simp only [x_new]
    repeat (first | rw [if_neg (by omega)] | rw [if_pos (by omega)])
  · intro p p1 p2
    funext i
    simp (disch := omega) only [x_up_p, x_zM_p]
  · intro j hj
    simp (disch := omega) only [x_up_p, x_up_o, x_zM_p]
  · simp (disch := omega) only [x_up_p, x_up_s, x_zM_p]
  · intro x i hx hi
    by_cases h34 : x = 34
    · subst h34
      simp (disch := omega) only [x_upR_p, x_upR_o, x_zR_p]
    · simp (disch := omega) only [x_upR_p, x_zR_p]
  · simp (disch := omega) only [x_upR_s]
  · refine ⟨⟨?_, ⟨?_, ?_, ?_⟩, ?_, ?_⟩, ?_, ?_, ?_⟩
    · rw [xm_kd_dy (by omega), show e + 174 - 174 = e by omega]; exact h50
    · rw [xm_kd_dy (by omega), show e + 174 + 1 - 174 = e + 1 by omega]
      simp only [x_new]
      rw [if_neg (by omega), if_neg (by omega), if_neg (by omega)]; (first | rw [if_pos rfl] | simp only [if_true])
      rfl
    · rw [xm_kd_dy (by omega), show e + 174 + 1 + 1 - 174 = e + 2 by omega]
      simp only [x_new]
      rw [if_neg (by omega), if_neg (by omega)]; (first | rw [if_pos rfl] | simp only [if_true])
    · simp (disch := omega) only [x_upR_p, x_upR_s, x_upR_o, x_zR_p]
    · rw [xm_kd_dy (by omega), show e + 174 + 3 - 174 = e + 3 by omega]
      simp only [x_new]
      rw [if_neg (by omega)]; (first | rw [if_pos rfl] | simp only [if_true])
    · rw [xm_kd_dy (by omega), show e + 174 + 4 - 174 = e + 4 by omega]
      simp only [x_new, if_true]
    · simp (disch := omega) only [x_upR_p, x_upR_s, x_upR_o, x_zR_p]
    · simp (disch := omega) only [x_upR_p, x_upR_s, x_upR_o, x_zR_p]
    · simp (disch := omega) only [x_upR_p, x_upR_s, x_upR_o, x_zR_p]
  · intro j
    rw [x_upR_p (by omega), x_upR_p (by omega)]
    unfold x_zR
    rw [if_pos (by omega)]
/-- a shape for use -/
theorem n_263 (hE : ∀ j, (eX j).1 ≤ 1000000) {n t : Int} (hn : M 8 8 = n) (hn1 : 0 ≤ n ∧ n < 20) (hH : kHp ρ e R ow) (hr : rm t (ρ, e, M, R, sl)) (ht : 0 ≤ t) (hQ : ∀ ρ' e' M' R' sl' ow' y, kG ρ e R sl ow ρ' e' R' sl' ow' → kHp ρ' e' R' ow' → R' 34 n = some (y + 1) → (c_S ρ' R' y ∧ (174 ≤ y ∧ y + 5 ≤ e' + 174) ∧ (∀ z, y ≤ z → z < y + 5 → ow' z = 1000 + 10 * n) ∧ kGp ρ' e' R' ow' n y) → (∀ p, p ≠ 8 → p < e + 174 → M' p = M p) → (∀ j, j ≠ 8 → M' 8 j = M 8 j) → M' 8 8 = n + 1 → (∀ x i, x < e + 174 → (x ≠ 34 ∨ i ≠ n) → R' x i = R x i) → Q (.inl (some (.inr (.inr (some (y + 1)))))) (ρ', e', M', R', sl')) : xm_call tb_P eX tb_K0 174 (d + 4) 263 [.inr (.inr (some 9))] (ρ, e, M, R, sl) Q := by
  have hroom := rm_in2 hr ht
  rcases id hH.2.1 n hn1.1 hn1.2 with h | ⟨y, y1, y2, y3, y4, y5⟩
  · refine n_263b hE hn hn1 h (by omega) (fun ρ' M' R' a1 a2 a3 a4 a5 a6 a7 a8 => ?_)
    have hg : kG ρ e R sl ow ρ' (e + 5) R' (sl + 41) (fun x => if e + 174 ≤ x ∧ x < e + 179 then 1000 + 10 * n else ow x) := by
      refine ⟨a1, by omega, fun x i p c1 c2 c3 c4 c5 => ?_, fun x hx => if_neg (by omega), fun t M M' hh => rm_s hh hn1 h a6 a7.2.2.2 a8 a5 (by omega)⟩
      rw [a5 x i c4 ?_]
      · exact c5
      · by_cases h34 : x = 34
        · right
          intro hi
          rw [h34, hi, h] at c5
          cases c5
        · exact .inl h34
    exact hQ _ _ _ _ _ _ (e + 174) hg (kHp_sh hH hg a5 a6 a7 (fun z z0 z1 => if_pos ⟨z0, z1⟩) a8) a6 ⟨a7, by omega, fun z z0 z1 => if_pos (by omega), fun j _ _ => .inl (a8 j)⟩ a2 a3 a4 a5
  · refine n_263a hE hn hn1 y1 ?_
    exact hQ _ _ _ _ _ ow y kG_rf hH y1 ⟨y2, y3, y4, y5⟩ (fun p p1 _ => x_up_ne p1) (fun j hj => x_up_o hj) (x_up_s rfl) (fun _ _ _ _ => rfl)
set_option linter.unusedSimpArgs false in
set_option maxRecDepth 100000 in
set_option maxHeartbeats 4000000 in
theorem n_362a (hE : ∀ j, (eX j).1 ≤ 1000000) {y x : Nat} {k r : Int} (hy : c_S ρ R y) (hk : M y 2 = k) (hk1 : 0 ≤ k ∧ k < 4) (hR : R (y + 4) k = some (x + 1)) (hQ : Q (.inl (some (.inr (.inr (some (x + 1)))))) (ρ, e, x_up (x_up M (y + 3) k r) y 2 (k + 1), R, sl)) : xm_call tb_P eX tb_K0 174 (d + 3) 362 [.inr (.inr (some (y + 1))), .inl r] (ρ, e, M, R, sl) Q := by
  obtain ⟨⟨y1, ⟨y2, y3, y4⟩, y5, y6⟩, y7, y8, y9⟩ := hy
  subst hk
  have hw : w32 (M y 2 + 1) = M y 2 + 1 := by simp (disch := omega) only [w32_id]
  have hz2 : x_up M (y + 3) (M y 2) r y 2 = M y 2 := x_up_p (by omega)
  have hidx : w32 (x_up (x_up M (y + 3) (M y 2) r) y 2 (w32 (x_up M (y + 3) (M y 2) r y 2 + 1)) y 2 - 1) = M y 2 := by
    rw [x_up_s rfl, hz2, hw]
    simp (disch := omega) only [w32_id]
    omega
  have hst : x_up (x_up M (y + 3) (M y 2) r) y 2 (w32 (x_up M (y + 3) (M y 2) r y 2 + 1)) = x_up (x_up M (y + 3) (M y 2) r) y 2 (M y 2 + 1) := by rw [hz2, hw]
  rw [← hst] at hQ
  refine xm_run hE (fun _ _ => none) (fun _ => true) (fun Ff C hF hC => ?_)
  (conv => whnf)
  repeat (first | (refine x_go (x_rc rfl (tb_dynE y1) rfl) ?_; (conv => whnf)) | (refine x_go (x_rc rfl (tb_dynE y5) rfl) ?_; (conv => whnf)) | (refine x_go (x_rc rfl (tb_dynE y6) rfl) ?_; (conv => whnf)) | (rw [tb_dynE y1]; (conv => whnf)) | (rw [tb_dynE y5]; (conv => whnf)) | (rw [tb_dynE y6]; (conv => whnf)) | (rw [y8]; (conv => whnf)) | (rw [y9]; (conv => whnf)) | (rw [hR]; (conv => whnf)) | (rw [hidx]; (conv => whnf)) | (refine br_t (by first | omega | (simp (disch := omega) only [w32_id, w64_id, x_up_p, x_up_s, x_up_o, x_fill_p, x_fill_i, x_fill_o, x_cpy_p, x_cpy_i, x_cpy_o, x_upR_p, x_upR_s, x_upR_o, x_zM_p, x_zR_p, x_set_p, x_set_s, tb_CM, tb_SM, xm_cats, xm_cat, List.length_cons, List.length_nil, x_cmp_ge, x_cmp_le, x_cmp_gt, x_cmp_lt, x_cmp_eq, not_true_eq_false, not_false_eq_true, true_and, and_true, Int.add_zero, Int.zero_add, Int.cast_ofNat_Int, Int.sub_zero] <;> omega) | (simp (disch := omega) only [w32_id, w64_id, x_up_p, x_up_s, x_up_o, x_fill_p, x_fill_i, x_fill_o, x_cpy_p, x_cpy_i, x_cpy_o, x_upR_p, x_upR_s, x_upR_o, x_zM_p, x_zR_p, x_set_p, x_set_s, tb_CM, tb_SM, xm_cats, xm_cat, List.length_cons, List.length_nil, x_cmp_ge, x_cmp_le, x_cmp_gt, x_cmp_lt, x_cmp_eq, not_true_eq_false, not_false_eq_true, true_and, and_true, Int.add_zero, Int.zero_add, Int.cast_ofNat_Int, Int.sub_zero]; done) | fail) ?_; (conv => whnf)) | (refine br_f (by first | omega | (simp (disch := omega) only [w32_id, w64_id, x_up_p, x_up_s, x_up_o, x_fill_p, x_fill_i, x_fill_o, x_cpy_p, x_cpy_i, x_cpy_o, x_upR_p, x_upR_s, x_upR_o, x_zM_p, x_zR_p, x_set_p, x_set_s, tb_CM, tb_SM, xm_cats, xm_cat, List.length_cons, List.length_nil, x_cmp_ge, x_cmp_le, x_cmp_gt, x_cmp_lt, x_cmp_eq, not_true_eq_false, not_false_eq_true, true_and, and_true, Int.add_zero, Int.zero_add, Int.cast_ofNat_Int, Int.sub_zero] <;> omega) | (simp (disch := omega) only [w32_id, w64_id, x_up_p, x_up_s, x_up_o, x_fill_p, x_fill_i, x_fill_o, x_cpy_p, x_cpy_i, x_cpy_o, x_upR_p, x_upR_s, x_upR_o, x_zM_p, x_zR_p, x_set_p, x_set_s, tb_CM, tb_SM, xm_cats, xm_cat, List.length_cons, List.length_nil, x_cmp_ge, x_cmp_le, x_cmp_gt, x_cmp_lt, x_cmp_eq, not_true_eq_false, not_false_eq_true, true_and, and_true, Int.add_zero, Int.zero_add, Int.cast_ofNat_Int, Int.sub_zero]; done) | fail) ?_; (conv => whnf)) | (refine sw_in (by first | omega | (simp (disch := omega) only [w32_id, w64_id, x_up_p, x_up_s, x_up_o, x_fill_p, x_fill_i, x_fill_o, x_cpy_p, x_cpy_i, x_cpy_o, x_upR_p, x_upR_s, x_upR_o, x_zM_p, x_zR_p, x_set_p, x_set_s, tb_CM, tb_SM, xm_cats, xm_cat, List.length_cons, List.length_nil, x_cmp_ge, x_cmp_le, x_cmp_gt, x_cmp_lt, x_cmp_eq, not_true_eq_false, not_false_eq_true, true_and, and_true, Int.add_zero, Int.zero_add, Int.cast_ofNat_Int, Int.sub_zero] <;> omega) | (simp (disch := omega) only [w32_id, w64_id, x_up_p, x_up_s, x_up_o, x_fill_p, x_fill_i, x_fill_o, x_cpy_p, x_cpy_i, x_cpy_o, x_upR_p, x_upR_s, x_upR_o, x_zM_p, x_zR_p, x_set_p, x_set_s, tb_CM, tb_SM, xm_cats, xm_cat, List.length_cons, List.length_nil, x_cmp_ge, x_cmp_le, x_cmp_gt, x_cmp_lt, x_cmp_eq, not_true_eq_false, not_false_eq_true, true_and, and_true, Int.add_zero, Int.zero_add, Int.cast_ofNat_Int, Int.sub_zero]; done) | fail) ?_; (conv => whnf)) | (refine sw_hit (by first | omega | (simp (disch := omega) only [w32_id, w64_id, x_up_p, x_up_s, x_up_o, x_fill_p, x_fill_i, x_fill_o, x_cpy_p, x_cpy_i, x_cpy_o, x_upR_p, x_upR_s, x_upR_o, x_zM_p, x_zR_p, x_set_p, x_set_s, tb_CM, tb_SM, xm_cats, xm_cat, List.length_cons, List.length_nil, x_cmp_ge, x_cmp_le, x_cmp_gt, x_cmp_lt, x_cmp_eq, not_true_eq_false, not_false_eq_true, true_and, and_true, Int.add_zero, Int.zero_add, Int.cast_ofNat_Int, Int.sub_zero] <;> omega) | (simp (disch := omega) only [w32_id, w64_id, x_up_p, x_up_s, x_up_o, x_fill_p, x_fill_i, x_fill_o, x_cpy_p, x_cpy_i, x_cpy_o, x_upR_p, x_upR_s, x_upR_o, x_zM_p, x_zR_p, x_set_p, x_set_s, tb_CM, tb_SM, xm_cats, xm_cat, List.length_cons, List.length_nil, x_cmp_ge, x_cmp_le, x_cmp_gt, x_cmp_lt, x_cmp_eq, not_true_eq_false, not_false_eq_true, true_and, and_true, Int.add_zero, Int.zero_add, Int.cast_ofNat_Int, Int.sub_zero]; done) | fail) ?_ (sw_vac (by first | omega | (simp (disch := omega) only [w32_id, w64_id, x_up_p, x_up_s, x_up_o, x_fill_p, x_fill_i, x_fill_o, x_cpy_p, x_cpy_i, x_cpy_o, x_upR_p, x_upR_s, x_upR_o, x_zM_p, x_zR_p, x_set_p, x_set_s, tb_CM, tb_SM, xm_cats, xm_cat, List.length_cons, List.length_nil, x_cmp_ge, x_cmp_le, x_cmp_gt, x_cmp_lt, x_cmp_eq, not_true_eq_false, not_false_eq_true, true_and, and_true, Int.add_zero, Int.zero_add, Int.cast_ofNat_Int, Int.sub_zero] <;> omega) | (simp (disch := omega) only [w32_id, w64_id, x_up_p, x_up_s, x_up_o, x_fill_p, x_fill_i, x_fill_o, x_cpy_p, x_cpy_i, x_cpy_o, x_upR_p, x_upR_s, x_upR_o, x_zM_p, x_zR_p, x_set_p, x_set_s, tb_CM, tb_SM, xm_cats, xm_cat, List.length_cons, List.length_nil, x_cmp_ge, x_cmp_le, x_cmp_gt, x_cmp_lt, x_cmp_eq, not_true_eq_false, not_false_eq_true, true_and, and_true, Int.add_zero, Int.zero_add, Int.cast_ofNat_Int, Int.sub_zero]; done) | fail)); (conv => whnf)) | (refine sw_next (by first | omega | (simp (disch := omega) only [w32_id, w64_id, x_up_p, x_up_s, x_up_o, x_fill_p, x_fill_i, x_fill_o, x_cpy_p, x_cpy_i, x_cpy_o, x_upR_p, x_upR_s, x_upR_o, x_zM_p, x_zR_p, x_set_p, x_set_s, tb_CM, tb_SM, xm_cats, xm_cat, List.length_cons, List.length_nil, x_cmp_ge, x_cmp_le, x_cmp_gt, x_cmp_lt, x_cmp_eq, not_true_eq_false, not_false_eq_true, true_and, and_true, Int.add_zero, Int.zero_add, Int.cast_ofNat_Int, Int.sub_zero] <;> omega) | (simp (disch := omega) only [w32_id, w64_id, x_up_p, x_up_s, x_up_o, x_fill_p, x_fill_i, x_fill_o, x_cpy_p, x_cpy_i, x_cpy_o, x_upR_p, x_upR_s, x_upR_o, x_zM_p, x_zR_p, x_set_p, x_set_s, tb_CM, tb_SM, xm_cats, xm_cat, List.length_cons, List.length_nil, x_cmp_ge, x_cmp_le, x_cmp_gt, x_cmp_lt, x_cmp_eq, not_true_eq_false, not_false_eq_true, true_and, and_true, Int.add_zero, Int.zero_add, Int.cast_ofNat_Int, Int.sub_zero]; done) | fail) ?_; (conv => whnf)) | (refine sw_def (by first | omega | (simp (disch := omega) only [w32_id, w64_id, x_up_p, x_up_s, x_up_o, x_fill_p, x_fill_i, x_fill_o, x_cpy_p, x_cpy_i, x_cpy_o, x_upR_p, x_upR_s, x_upR_o, x_zM_p, x_zR_p, x_set_p, x_set_s, tb_CM, tb_SM, xm_cats, xm_cat, List.length_cons, List.length_nil, x_cmp_ge, x_cmp_le, x_cmp_gt, x_cmp_lt, x_cmp_eq, not_true_eq_false, not_false_eq_true, true_and, and_true, Int.add_zero, Int.zero_add, Int.cast_ofNat_Int, Int.sub_zero] <;> omega) | (simp (disch := omega) only [w32_id, w64_id, x_up_p, x_up_s, x_up_o, x_fill_p, x_fill_i, x_fill_o, x_cpy_p, x_cpy_i, x_cpy_o, x_upR_p, x_upR_s, x_upR_o, x_zM_p, x_zR_p, x_set_p, x_set_s, tb_CM, tb_SM, xm_cats, xm_cat, List.length_cons, List.length_nil, x_cmp_ge, x_cmp_le, x_cmp_gt, x_cmp_lt, x_cmp_eq, not_true_eq_false, not_false_eq_true, true_and, and_true, Int.add_zero, Int.zero_add, Int.cast_ofNat_Int, Int.sub_zero]; done) | fail) ?_; (conv => whnf)) | (refine And.intro (by first | omega | (simp (disch := omega) only [w32_id, w64_id, x_up_p, x_up_s, x_up_o, x_fill_p, x_fill_i, x_fill_o, x_cpy_p, x_cpy_i, x_cpy_o, x_upR_p, x_upR_s, x_upR_o, x_zM_p, x_zR_p, x_set_p, x_set_s, tb_CM, tb_SM, xm_cats, xm_cat, List.length_cons, List.length_nil, x_cmp_ge, x_cmp_le, x_cmp_gt, x_cmp_lt, x_cmp_eq, not_true_eq_false, not_false_eq_true, true_and, and_true, Int.add_zero, Int.zero_add, Int.cast_ofNat_Int, Int.sub_zero] <;> omega) | (simp (disch := omega) only [w32_id, w64_id, x_up_p, x_up_s, x_up_o, x_fill_p, x_fill_i, x_fill_o, x_cpy_p, x_cpy_i, x_cpy_o, x_upR_p, x_upR_s, x_upR_o, x_zM_p, x_zR_p, x_set_p, x_set_s, tb_CM, tb_SM, xm_cats, xm_cat, List.length_cons, List.length_nil, x_cmp_ge, x_cmp_le, x_cmp_gt, x_cmp_lt, x_cmp_eq, not_true_eq_false, not_false_eq_true, true_and, and_true, Int.add_zero, Int.zero_add, Int.cast_ofNat_Int, Int.sub_zero]; done) | fail) ?_; (conv => whnf)))
  exact hQ
set_option linter.unusedSimpArgs false in
set_option maxRecDepth 100000 in
set_option maxHeartbeats 4000000 in
theorem n_362b (hE : ∀ j, (eX j).1 ≤ 1000000) {y : Nat} {k r : Int} (hy : c_S ρ R y) (hyb : 174 ≤ y ∧ y + 5 ≤ e + 174) (hk : M y 2 = k) (hk1 : 0 ≤ k ∧ k < 4) (hR : R (y + 4) k = none) (hr : e + 180 ≤ 601024 ∧ sl + 100 ≤ 7293034) (hQ : ∀ ρ' M' R', (∀ i, i < e → ρ' i = ρ i) → (∀ p, p ≠ y → p ≠ y + 3 → p < e + 174 → M' p = M p) → (∀ j, j ≠ 2 → M' y j = M y j) → M' y 2 = k + 1 → (∀ j, j ≠ k → M' (y + 3) j = M (y + 3) j) → M' (y + 3) k = r → (∀ x i, x < e + 174 → (x ≠ y + 4 ∨ i ≠ k) → R' x i = R x i) → R' (y + 4) k = some (e + 175) → c_E ρ' R' (e + 174) → Q (.inl (some (.inr (.inr (some (e + 175)))))) (ρ', e + 2, M', R', sl + 28)) : xm_call tb_P eX tb_K0 174 (d + 3) 362 [.inr (.inr (some (y + 1))), .inl r] (ρ, e, M, R, sl) Q := by
  obtain ⟨⟨y1, ⟨y2, y3, y4⟩, y5, y6⟩, y7, y8, y9⟩ := hy
  have v4 : tb_V4.length = 2 := rfl
  have h1 : x_new ρ e (.inr (4, xm_lay tb_V4 0)) e = some (.inr (4, xm_lay tb_V4 0)) := by unfold x_new; rw [if_pos rfl]
  have h2 : x_new (x_new ρ e (.inr (4, xm_lay tb_V4 0))) (e + 1) (.inl (1, 26)) e = some (.inr (4, xm_lay tb_V4 0)) := by unfold x_new; rw [if_neg (by omega), if_pos rfl]
  have kd : ∀ (p : Nat), 174 ≤ p → p < e + 174 → xm_kd tb_K0 p (x_new (x_new ρ e (.inr (4, xm_lay tb_V4 0))) (e + 1) (.inl (1, 26))) = xm_kd tb_K0 p ρ := fun p a b => by
    rw [xm_kd_dy a, xm_kd_dy a]
    unfold x_new
    rw [if_neg (by omega), if_neg (by omega)]
  have z1 := (kd y (by omega) (by omega)).trans y1
  have z5 := (kd (y + 3) (by omega) (by omega)).trans y5
  have z6 := (kd (y + 4) (by omega) (by omega)).trans y6
  have kd1 : ∀ (p : Nat), 174 ≤ p → p < e + 174 → xm_kd tb_K0 p (x_new ρ e (.inr (4, xm_lay tb_V4 0))) = xm_kd tb_K0 p ρ := fun p a b => by
    rw [xm_kd_dy a, xm_kd_dy a]
    unfold x_new
    rw [if_neg (by omega)]
  have u1 := (kd1 y (by omega) (by omega)).trans y1
  subst hk
  have hw : w32 (M y 2 + 1) = M y 2 + 1 := by simp (disch := omega) only [w32_id]
  have m2 : x_up (x_zM (x_zM M (e + 174)) (e + 1 + 174)) (e + 174) 1 0 y 2 = M y 2 := by rw [x_up_p (by omega), x_zM_p (by omega), x_zM_p (by omega)]
  have q8 : x_upR (x_zR (x_zR R (e + 174)) (e + 1 + 174)) (e + 174) 0 (some (e + 1 + 175)) y 3 = some (y + 4) := by rw [x_upR_p (by omega), x_zR_p (by omega), x_zR_p (by omega)]; exact y8
  have q9 : x_upR (x_zR (x_zR R (e + 174)) (e + 1 + 174)) (e + 174) 0 (some (e + 1 + 175)) y 4 = some (y + 5) := by rw [x_upR_p (by omega), x_zR_p (by omega), x_zR_p (by omega)]; exact y9
  have q8' : x_upR (x_upR (x_zR (x_zR R (e + 174)) (e + 1 + 174)) (e + 174) 0 (some (e + 1 + 175))) (y + 4) (M y 2) (some (e + 175)) y 3 = some (y + 4) := by rw [x_upR_p (by omega)]; exact q8
  have q9' : x_upR (x_upR (x_zR (x_zR R (e + 174)) (e + 1 + 174)) (e + 174) 0 (some (e + 1 + 175))) (y + 4) (M y 2) (some (e + 175)) y 4 = some (y + 5) := by rw [x_upR_p (by omega)]; exact q9
  refine xm_run hE (fun _ _ => none) (fun _ => true) (fun Ff C hF hC => ?_)
  (conv => whnf)
  repeat (first | (refine x_go (x_rc rfl (tb_dynE y1) rfl) ?_; (conv => whnf)) | (refine x_go (x_rc rfl (tb_dynE y5) rfl) ?_; (conv => whnf)) | (refine x_go (x_rc rfl (tb_dynE y6) rfl) ?_; (conv => whnf)) | (refine x_go (x_rc rfl (tb_dyn h1) rfl) ?_; (conv => whnf)) | (refine x_go (x_rc rfl (tb_dyn h2) rfl) ?_; (conv => whnf)) | (refine x_go (x_rc rfl (tb_dynE z1) rfl) ?_; (conv => whnf)) | (refine x_go (x_rc rfl (tb_dynE z5) rfl) ?_; (conv => whnf)) | (refine x_go (x_rc rfl (tb_dynE z6) rfl) ?_; (conv => whnf)) | (rw [tb_dynE y1]; (conv => whnf)) | (rw [tb_dynE y5]; (conv => whnf)) | (rw [tb_dynE y6]; (conv => whnf)) | (rw [y8]; (conv => whnf)) | (rw [y9]; (conv => whnf)) | (rw [hR]; (conv => whnf)) | (rw [tb_dyn h1]; (conv => whnf)) | (rw [tb_dyn h2]; (conv => whnf)) | (rw [tb_dynE z1]; (conv => whnf)) | (rw [tb_dynE z5]; (conv => whnf)) | (rw [tb_dynE z6]; (conv => whnf)) | (rw [q8]; (conv => whnf)) | (rw [q9]; (conv => whnf)) | (rw [q8']; (conv => whnf)) | (rw [q9']; (conv => whnf)) | (refine br_t (by first | omega | (simp (disch := omega) only [w32_id, w64_id, x_up_p, x_up_s, x_up_o, x_fill_p, x_fill_i, x_fill_o, x_cpy_p, x_cpy_i, x_cpy_o, x_upR_p, x_upR_s, x_upR_o, x_zM_p, x_zR_p, x_set_p, x_set_s, tb_CM, tb_SM, xm_cats, xm_cat, List.length_cons, List.length_nil, x_cmp_ge, x_cmp_le, x_cmp_gt, x_cmp_lt, x_cmp_eq, not_true_eq_false, not_false_eq_true, true_and, and_true, Int.add_zero, Int.zero_add, Int.cast_ofNat_Int, Int.sub_zero, v4, m2, hw] <;> omega) | (simp (disch := omega) only [w32_id, w64_id, x_up_p, x_up_s, x_up_o, x_fill_p, x_fill_i, x_fill_o, x_cpy_p, x_cpy_i, x_cpy_o, x_upR_p, x_upR_s, x_upR_o, x_zM_p, x_zR_p, x_set_p, x_set_s, tb_CM, tb_SM, xm_cats, xm_cat, List.length_cons, List.length_nil, x_cmp_ge, x_cmp_le, x_cmp_gt, x_cmp_lt, x_cmp_eq, not_true_eq_false, not_false_eq_true, true_and, and_true, Int.add_zero, Int.zero_add, Int.cast_ofNat_Int, Int.sub_zero, v4, m2, hw]; done) | fail) ?_; (conv => whnf)) | (refine br_f (by first | omega | (simp (disch := omega) only [w32_id, w64_id, x_up_p, x_up_s, x_up_o, x_fill_p, x_fill_i, x_fill_o, x_cpy_p, x_cpy_i, x_cpy_o, x_upR_p, x_upR_s, x_upR_o, x_zM_p, x_zR_p, x_set_p, x_set_s, tb_CM, tb_SM, xm_cats, xm_cat, List.length_cons, List.length_nil, x_cmp_ge, x_cmp_le, x_cmp_gt, x_cmp_lt, x_cmp_eq, not_true_eq_false, not_false_eq_true, true_and, and_true, Int.add_zero, Int.zero_add, Int.cast_ofNat_Int, Int.sub_zero, v4, m2, hw] <;> omega) | (simp (disch := omega) only [w32_id, w64_id, x_up_p, x_up_s, x_up_o, x_fill_p, x_fill_i, x_fill_o, x_cpy_p, x_cpy_i, x_cpy_o, x_upR_p, x_upR_s, x_upR_o, x_zM_p, x_zR_p, x_set_p, x_set_s, tb_CM, tb_SM, xm_cats, xm_cat, List.length_cons, List.length_nil, x_cmp_ge, x_cmp_le, x_cmp_gt, x_cmp_lt, x_cmp_eq, not_true_eq_false, not_false_eq_true, true_and, and_true, Int.add_zero, Int.zero_add, Int.cast_ofNat_Int, Int.sub_zero, v4, m2, hw]; done) | fail) ?_; (conv => whnf)) | (refine sw_in (by first | omega | (simp (disch := omega) only [w32_id, w64_id, x_up_p, x_up_s, x_up_o, x_fill_p, x_fill_i, x_fill_o, x_cpy_p, x_cpy_i, x_cpy_o, x_upR_p, x_upR_s, x_upR_o, x_zM_p, x_zR_p, x_set_p, x_set_s, tb_CM, tb_SM, xm_cats, xm_cat, List.length_cons, List.length_nil, x_cmp_ge, x_cmp_le, x_cmp_gt, x_cmp_lt, x_cmp_eq, not_true_eq_false, not_false_eq_true, true_and, and_true, Int.add_zero, Int.zero_add, Int.cast_ofNat_Int, Int.sub_zero, v4, m2, hw] <;> omega) | (simp (disch := omega) only [w32_id, w64_id, x_up_p, x_up_s, x_up_o, x_fill_p, x_fill_i, x_fill_o, x_cpy_p, x_cpy_i, x_cpy_o, x_upR_p, x_upR_s, x_upR_o, x_zM_p, x_zR_p, x_set_p, x_set_s, tb_CM, tb_SM, xm_cats, xm_cat, List.length_cons, List.length_nil, x_cmp_ge, x_cmp_le, x_cmp_gt, x_cmp_lt, x_cmp_eq, not_true_eq_false, not_false_eq_true, true_and, and_true, Int.add_zero, Int.zero_add, Int.cast_ofNat_Int, Int.sub_zero, v4, m2, hw]; done) | fail) ?_; (conv => whnf)) | (refine sw_hit (by first | omega | (simp (disch := omega) only [w32_id, w64_id, x_up_p, x_up_s, x_up_o, x_fill_p, x_fill_i, x_fill_o, x_cpy_p, x_cpy_i, x_cpy_o, x_upR_p, x_upR_s, x_upR_o, x_zM_p, x_zR_p, x_set_p, x_set_s, tb_CM, tb_SM, xm_cats, xm_cat, List.length_cons, List.length_nil, x_cmp_ge, x_cmp_le, x_cmp_gt, x_cmp_lt, x_cmp_eq, not_true_eq_false, not_false_eq_true, true_and, and_true, Int.add_zero, Int.zero_add, Int.cast_ofNat_Int, Int.sub_zero, v4, m2, hw] <;> omega) | (simp (disch := omega) only [w32_id, w64_id, x_up_p, x_up_s, x_up_o, x_fill_p, x_fill_i, x_fill_o, x_cpy_p, x_cpy_i, x_cpy_o, x_upR_p, x_upR_s, x_upR_o, x_zM_p, x_zR_p, x_set_p, x_set_s, tb_CM, tb_SM, xm_cats, xm_cat, List.length_cons, List.length_nil, x_cmp_ge, x_cmp_le, x_cmp_gt, x_cmp_lt, x_cmp_eq, not_true_eq_false, not_false_eq_true, true_and, and_true, Int.add_zero, Int.zero_add, Int.cast_ofNat_Int, Int.sub_zero, v4, m2, hw]; done) | fail) ?_ (sw_vac (by first | omega | (simp (disch := omega) only [w32_id, w64_id, x_up_p, x_up_s, x_up_o, x_fill_p, x_fill_i, x_fill_o, x_cpy_p, x_cpy_i, x_cpy_o, x_upR_p, x_upR_s, x_upR_o, x_zM_p, x_zR_p, x_set_p, x_set_s, tb_CM, tb_SM, xm_cats, xm_cat, List.length_cons, List.length_nil, x_cmp_ge, x_cmp_le, x_cmp_gt, x_cmp_lt, x_cmp_eq, not_true_eq_false, not_false_eq_true, true_and, and_true, Int.add_zero, Int.zero_add, Int.cast_ofNat_Int, Int.sub_zero, v4, m2, hw] <;> omega) | (simp (disch := omega) only [w32_id, w64_id, x_up_p, x_up_s, x_up_o, x_fill_p, x_fill_i, x_fill_o, x_cpy_p, x_cpy_i, x_cpy_o, x_upR_p, x_upR_s, x_upR_o, x_zM_p, x_zR_p, x_set_p, x_set_s, tb_CM, tb_SM, xm_cats, xm_cat, List.length_cons, List.length_nil, x_cmp_ge, x_cmp_le, x_cmp_gt, x_cmp_lt, x_cmp_eq, not_true_eq_false, not_false_eq_true, true_and, and_true, Int.add_zero, Int.zero_add, Int.cast_ofNat_Int, Int.sub_zero, v4, m2, hw]; done) | fail)); (conv => whnf)) | (refine sw_next (by first | omega | (simp (disch := omega) only [w32_id, w64_id, x_up_p, x_up_s, x_up_o, x_fill_p, x_fill_i, x_fill_o, x_cpy_p, x_cpy_i, x_cpy_o, x_upR_p, x_upR_s, x_upR_o, x_zM_p, x_zR_p, x_set_p, x_set_s, tb_CM, tb_SM, xm_cats, xm_cat, List.length_cons, List.length_nil, x_cmp_ge, x_cmp_le, x_cmp_gt, x_cmp_lt, x_cmp_eq, not_true_eq_false, not_false_eq_true, true_and, and_true, Int.add_zero, Int.zero_add, Int.cast_ofNat_Int, Int.sub_zero, v4, m2, hw] <;> omega) | (simp (disch := omega) only [w32_id, w64_id, x_up_p, x_up_s, x_up_o, x_fill_p, x_fill_i, x_fill_o, x_cpy_p, x_cpy_i, x_cpy_o, x_upR_p, x_upR_s, x_upR_o, x_zM_p, x_zR_p, x_set_p, x_set_s, tb_CM, tb_SM, xm_cats, xm_cat, List.length_cons, List.length_nil, x_cmp_ge, x_cmp_le, x_cmp_gt, x_cmp_lt, x_cmp_eq, not_true_eq_false, not_false_eq_true, true_and, and_true, Int.add_zero, Int.zero_add, Int.cast_ofNat_Int, Int.sub_zero, v4, m2, hw]; done) | fail) ?_; (conv => whnf)) | (refine sw_def (by first | omega | (simp (disch := omega) only [w32_id, w64_id, x_up_p, x_up_s, x_up_o, x_fill_p, x_fill_i, x_fill_o, x_cpy_p, x_cpy_i, x_cpy_o, x_upR_p, x_upR_s, x_upR_o, x_zM_p, x_zR_p, x_set_p, x_set_s, tb_CM, tb_SM, xm_cats, xm_cat, List.length_cons, List.length_nil, x_cmp_ge, x_cmp_le, x_cmp_gt, x_cmp_lt, x_cmp_eq, not_true_eq_false, not_false_eq_true, true_and, and_true, Int.add_zero, Int.zero_add, Int.cast_ofNat_Int, Int.sub_zero, v4, m2, hw] <;> omega) | (simp (disch := omega) only [w32_id, w64_id, x_up_p, x_up_s, x_up_o, x_fill_p, x_fill_i, x_fill_o, x_cpy_p, x_cpy_i, x_cpy_o, x_upR_p, x_upR_s, x_upR_o, x_zM_p, x_zR_p, x_set_p, x_set_s, tb_CM, tb_SM, xm_cats, xm_cat, List.length_cons, List.length_nil, x_cmp_ge, x_cmp_le, x_cmp_gt, x_cmp_lt, x_cmp_eq, not_true_eq_false, not_false_eq_true, true_and, and_true, Int.add_zero, Int.zero_add, Int.cast_ofNat_Int, Int.sub_zero, v4, m2, hw]; done) | fail) ?_; (conv => whnf)) | (refine And.intro (by first | omega | (simp (disch := omega) only [w32_id, w64_id, x_up_p, x_up_s, x_up_o, x_fill_p, x_fill_i, x_fill_o, x_cpy_p, x_cpy_i, x_cpy_o, x_upR_p, x_upR_s, x_upR_o, x_zM_p, x_zR_p, x_set_p, x_set_s, tb_CM, tb_SM, xm_cats, xm_cat, List.length_cons, List.length_nil, x_cmp_ge, x_cmp_le, x_cmp_gt, x_cmp_lt, x_cmp_eq, not_true_eq_false, not_false_eq_true, true_and, and_true, Int.add_zero, Int.zero_add, Int.cast_ofNat_Int, Int.sub_zero, v4, m2, hw] <;> omega) | (simp (disch := omega) only [w32_id, w64_id, x_up_p, x_up_s, x_up_o, x_fill_p, x_fill_i, x_fill_o, x_cpy_p, x_cpy_i, x_cpy_o, x_upR_p, x_upR_s, x_upR_o, x_zM_p, x_zR_p, x_set_p, x_set_s, tb_CM, tb_SM, xm_cats, xm_cat, List.length_cons, List.length_nil, x_cmp_ge, x_cmp_le, x_cmp_gt, x_cmp_lt, x_cmp_eq, not_true_eq_false, not_false_eq_true, true_and, and_true, Int.add_zero, Int.zero_add, Int.cast_ofNat_Int, Int.sub_zero, v4, m2, hw]; done) | fail) ?_; (conv => whnf)))
  try simp (disch := omega) only [w32_id, w64_id, x_up_p, x_up_s, x_up_o, x_fill_p, x_fill_i, x_fill_o, x_cpy_p, x_cpy_i, x_cpy_o, x_upR_p, x_upR_s, x_upR_o, x_zM_p, x_zR_p, x_set_p, x_set_s, tb_CM, tb_SM, xm_cats, xm_cat, List.length_cons, List.length_nil, x_cmp_ge, x_cmp_le, x_cmp_gt, x_cmp_lt, x_cmp_eq, not_true_eq_false, not_false_eq_true, true_and, and_true, Int.add_zero, Int.zero_add, Int.cast_ofNat_Int, Int.sub_zero, m2, hw, v4]
  first | (rw [x_upR_s (by omega)]) | skip
  refine hQ _ _ _ ?_ ?_ ?_ ?_ ?_ ?_ ?_ ?_ ?_
  · intro i hi
    simp only [x_new]
    repeat (first | rw [if_neg (by omega)] | rw [if_pos (by omega)])
  · intro p p1 p2 p3
    funext i
    simp (disch := omega) only [x_up_p, x_zM_p]
  · intro j hj
    simp (disch := omega) only [x_up_p, x_up_o, x_zM_p]
  · simp (disch := omega) only [x_up_p, x_up_s, x_zM_p]
  · intro j hj
    simp (disch := omega) only [x_up_p, x_up_o, x_zM_p]
  · simp (disch := omega) only [x_up_p, x_up_s, x_zM_p]
  · intro x i hx hi
    by_cases h34 : x = y + 4
    · subst h34
      simp (disch := omega) only [x_upR_p, x_upR_o, x_zR_p]
    · simp (disch := omega) only [x_upR_p, x_zR_p]
  · simp (disch := omega) only [x_upR_s]
  · refine ⟨?_, ?_, ?_⟩
    · rw [xm_kd_dy (by omega), show e + 174 - 174 = e by omega]; exact h2
    · rw [xm_kd_dy (by omega), show e + 174 + 1 - 174 = e + 1 by omega]
      unfold x_new
      rw [if_pos rfl]
    · simp (disch := omega) only [x_upR_p, x_upR_s, x_upR_o, x_zR_p]
/-- one more gap of a shape -/
theorem n_362 (hE : ∀ j, (eX j).1 ≤ 1000000) {n t k r : Int} {y : Nat} (hH : kHp ρ e R ow) (hn1 : 0 ≤ n ∧ n < 20) (hy : R 34 n = some (y + 1)) (hk : M y 2 = k) (hk1 : 0 ≤ k ∧ k < 4) (hr : rm t (ρ, e, M, R, sl)) (ht : 0 ≤ t) (hQ : ∀ ρ' e' M' R' sl' ow' x, kG ρ e R sl ow ρ' e' R' sl' ow' → kHp ρ' e' R' ow' → R' (y + 4) k = some (x + 1) → c_E ρ' R' x → (ow' x = 1001 + 10 * n + k ∧ ow' (x + 1) = 1001 + 10 * n + k) → x + 2 ≤ e' + 174 → (∀ p, p ≠ y → p ≠ y + 3 → p < e + 174 → M' p = M p) → (∀ j, j ≠ 2 → M' y j = M y j) → M' y 2 = k + 1 → (∀ j, j ≠ k → M' (y + 3) j = M (y + 3) j) → M' (y + 3) k = r → (∀ x i, x < e + 174 → (x ≠ y + 4 ∨ i ≠ k) → R' x i = R x i) → Q (.inl (some (.inr (.inr (some (x + 1)))))) (ρ', e', M', R', sl')) : xm_call tb_P eX tb_K0 174 (d + 3) 362 [.inr (.inr (some (y + 1))), .inl r] (ρ, e, M, R, sl) Q := by
  have hroom := rm_in2 hr ht
  rcases id hH.2.1 n hn1.1 hn1.2 with h | ⟨y', y1, y2, y3, y4, y5⟩
  · rw [hy] at h; cases h
  · rw [hy] at y1
    cases y1
    rcases y5 k hk1.1 hk1.2 with h | ⟨x, x1, x2, x3, x4⟩
    · refine n_362b hE y2 y3 hk hk1 h (by omega) (fun ρ' M' R' a1 a2 a3 a4 a5 a6 a7 a8 a9 => ?_)
      have hg : kG ρ e R sl ow ρ' (e + 2) R' (sl + 28) (fun x => if x = e + 174 ∨ x = e + 175 then 1001 + 10 * n + k else ow x) := by
        refine ⟨a1, by omega, fun x i p c1 c2 c3 c4 c5 => ?_, fun x hx => if_neg (by omega), fun t M M' hh => rm_g hh hH.2.1 hn1 hk1 hy h a8 a7⟩
        rw [a7 x i c4 ?_]
        · exact c5
        · by_cases h34 : x = y + 4
          · right
            intro hi
            rw [h34, hi, h] at c5
            cases c5
          · exact .inl h34
      exact hQ _ _ _ _ _ _ (e + 174) hg (kHp_gp hH hg hy hn1 a7 a8 a9 ⟨if_pos (.inl rfl), if_pos (.inr rfl)⟩) a8 a9 ⟨if_pos (.inl rfl), if_pos (.inr rfl)⟩ (by omega) a2 a3 a4 a5 a6 a7
    · refine n_362a hE y2 hk hk1 x1 ?_
      exact hQ _ _ _ _ _ ow x kG_rf hH x1 x2 x3 x4 (fun p p1 p2 _ => by rw [x_up_ne p1, x_up_ne p2]) (fun j hj => by rw [x_up_o hj, x_up_p (by omega)]) (x_up_s rfl) (fun j hj => by rw [x_up_p (by omega), x_up_o hj]) (by rw [x_up_p (by omega), x_up_s rfl]) (fun _ _ _ _ => rfl)
end

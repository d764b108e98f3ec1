/-! THE CLASS: what a type says of something: pending, told as facts or as goals -/
theorem k_afs_i {pl : Int} : ∀ {l : List (Int → Int)} {s s' : k_s}, k_afs pl l s = .inr s' → (∀ i, i ≠ 1 → s'.1 i = s.1 i) ∧ s'.2.2 = s.2.2
  | [], s, s', h => by
    cases h
    exact ⟨fun _ _ => rfl, rfl⟩
  | x :: l, s, s', h => by
    have h' : k_b (k_af pl x s) (k_afs pl l) = .inr s' := h
    rcases hq : k_af pl x s with a | s1
    · rw [hq] at h'; cases h'
    · rw [hq] at h'
      obtain ⟨i1, i2⟩ := k_afs_i (l := l) (s := s1) h'
      unfold k_af at hq
      split at hq
      · cases hq
      · cases hq
        exact ⟨fun i hi => (i1 i hi).trans (t_u_o hi), i2⟩
theorem k_ags_i {f pl so : Int} : ∀ {l : List (Int → Int)} {s s' : k_s}, k_ags f pl so l s = .inr s' → (∀ i, i ≠ 2 → i ≠ 3 → i ≠ 4 → s'.1 i = s.1 i) ∧ s'.2.1 = s.2.1 ∧ s'.2.2.2 = s.2.2.2
  | [], s, s', h => by
    cases h
    exact ⟨fun _ _ _ _ => rfl, rfl, rfl⟩
  | x :: l, s, s', h => by
    have h' : k_b (k_ag f pl so x s) (k_ags f pl so l) = .inr s' := h
    rcases hq : k_ag f pl so x s with a | s1
    · rw [hq] at h'; cases h'
    · rw [hq] at h'
      obtain ⟨i1, i2, i3⟩ := k_ags_i (l := l) (s := s1) h'
      unfold k_ag at hq
      split at hq
      · cases hq
      · cases hq
        exact ⟨fun i h2 h3 h4 => (i1 i h2 h3 h4).trans (k_gn_0 i ⟨h2, h3, h4⟩), i2, i3⟩
section
variable {ρ : Nat → Option xk} {e sl d : Nat} {M : Nat → Int → Int} {R : Nat → Int → Option Nat} {eX : Nat → Nat × (Nat → Int32)} {Q : xK}
set_option linter.unusedSimpArgs false in
set_option maxRecDepth 100000 in
set_option maxHeartbeats 4000000 in
theorem x_242 (hE : ∀ j, (eX j).1 ≤ 1000000) {x y : Nat} {b z by' : Int} {h g : Int → Int} (hx : c_E ρ R x) (hy : c_E ρ R y) (hxy : y ≠ x) (hc : eC M x b h z) (hg : eC M y by' g 0) (hb : ∀ j, 0 ≤ j → j < 26 → (-4000000000000000000 ≤ z * k_c g 0 j ∧ z * k_c g 0 j ≤ 4000000000000000000) ∧ -4000000000000000000 ≤ k_c h 0 j + z * k_c g 0 j ∧ k_c h 0 j + z * k_c g 0 j ≤ 4000000000000000000) (hQ : ∀ M', fE x M M' → eC M' x b (k_p h g z) 0 → Q (.inl none) (ρ, e, M', R, sl)) : xm_call tb_P eX tb_K0 174 (d + 2) 242 [.inr (.inr (some (x + 1))), .inr (.inr (some (y + 1)))] (ρ, e, M, R, sl) Q := by
  have hx' := hx
  have nxy := c_E_ne hx hy
  have nyx := c_E_ne hy hx
  obtain ⟨c1, c2, c3⟩ := hx
  have h25 : M (x + 1) 25 = z := by
    rw [hc.2 25 (by decide) (by decide)]
    rfl
  have hc1 : eC (x_up M (x + 1) 25 0) x b h 0 := ⟨by rw [x_up_p (by omega)]; exact hc.1, fun j j0 j1 => by
    by_cases h0 : j = 25
    · rw [x_up_s h0, h0]; rfl
    · rw [x_up_o h0, hc.2 j j0 j1]
      unfold k_c
      rw [if_neg h0, if_neg h0]⟩
  have hg1 : eC (x_up M (x + 1) 25 0) y by' g 0 := eC_fr hg (by rw [x_up_p (by omega)]) (x_up_ne (by omega))
  refine xm_run hE (fun _ _ => none) (fun k => !(Nat.beq k 238)) (fun F C hF hC => ?_)
  (conv => whnf)
  repeat (first | (refine x_go (x_rc rfl (tb_dynE c1) rfl) ?_; (conv => whnf)) | (refine x_go (x_rc rfl (tb_dynE c2) rfl) ?_; (conv => whnf)) | (rw [tb_dynE c1]; (conv => whnf)) | (rw [tb_dynE c2]; (conv => whnf)) | (rw [c3]; (conv => whnf)) | (refine br_t (by first | omega | (simp (disch := omega) only [w32_id, w64_id, x_up_p, x_up_s, x_up_o, x_fill_p, x_fill_i, x_fill_o, x_cpy_p, x_cpy_i, x_cpy_o, x_upR_p, x_upR_s, x_upR_o, x_zM_p, x_zR_p, x_set_p, x_set_s, tb_CM, tb_SM, xm_cats, xm_cat, List.length_cons, List.length_nil, x_cmp_ge, x_cmp_le, x_cmp_gt, x_cmp_lt, x_cmp_eq, not_true_eq_false, not_false_eq_true, true_and, and_true, Int.add_zero, Int.zero_add, Int.cast_ofNat_Int, Int.sub_zero, h25] <;> omega) | (simp (disch := omega) only [w32_id, w64_id, x_up_p, x_up_s, x_up_o, x_fill_p, x_fill_i, x_fill_o, x_cpy_p, x_cpy_i, x_cpy_o, x_upR_p, x_upR_s, x_upR_o, x_zM_p, x_zR_p, x_set_p, x_set_s, tb_CM, tb_SM, xm_cats, xm_cat, List.length_cons, List.length_nil, x_cmp_ge, x_cmp_le, x_cmp_gt, x_cmp_lt, x_cmp_eq, not_true_eq_false, not_false_eq_true, true_and, and_true, Int.add_zero, Int.zero_add, Int.cast_ofNat_Int, Int.sub_zero, h25]; done) | fail) ?_; (conv => whnf)) | (refine br_f (by first | omega | (simp (disch := omega) only [w32_id, w64_id, x_up_p, x_up_s, x_up_o, x_fill_p, x_fill_i, x_fill_o, x_cpy_p, x_cpy_i, x_cpy_o, x_upR_p, x_upR_s, x_upR_o, x_zM_p, x_zR_p, x_set_p, x_set_s, tb_CM, tb_SM, xm_cats, xm_cat, List.length_cons, List.length_nil, x_cmp_ge, x_cmp_le, x_cmp_gt, x_cmp_lt, x_cmp_eq, not_true_eq_false, not_false_eq_true, true_and, and_true, Int.add_zero, Int.zero_add, Int.cast_ofNat_Int, Int.sub_zero, h25] <;> omega) | (simp (disch := omega) only [w32_id, w64_id, x_up_p, x_up_s, x_up_o, x_fill_p, x_fill_i, x_fill_o, x_cpy_p, x_cpy_i, x_cpy_o, x_upR_p, x_upR_s, x_upR_o, x_zM_p, x_zR_p, x_set_p, x_set_s, tb_CM, tb_SM, xm_cats, xm_cat, List.length_cons, List.length_nil, x_cmp_ge, x_cmp_le, x_cmp_gt, x_cmp_lt, x_cmp_eq, not_true_eq_false, not_false_eq_true, true_and, and_true, Int.add_zero, Int.zero_add, Int.cast_ofNat_Int, Int.sub_zero, h25]; done) | fail) ?_; (conv => whnf)) | (refine sw_in (by first | omega | (simp (disch := omega) only [w32_id, w64_id, x_up_p, x_up_s, x_up_o, x_fill_p, x_fill_i, x_fill_o, x_cpy_p, x_cpy_i, x_cpy_o, x_upR_p, x_upR_s, x_upR_o, x_zM_p, x_zR_p, x_set_p, x_set_s, tb_CM, tb_SM, xm_cats, xm_cat, List.length_cons, List.length_nil, x_cmp_ge, x_cmp_le, x_cmp_gt, x_cmp_lt, x_cmp_eq, not_true_eq_false, not_false_eq_true, true_and, and_true, Int.add_zero, Int.zero_add, Int.cast_ofNat_Int, Int.sub_zero, h25] <;> omega) | (simp (disch := omega) only [w32_id, w64_id, x_up_p, x_up_s, x_up_o, x_fill_p, x_fill_i, x_fill_o, x_cpy_p, x_cpy_i, x_cpy_o, x_upR_p, x_upR_s, x_upR_o, x_zM_p, x_zR_p, x_set_p, x_set_s, tb_CM, tb_SM, xm_cats, xm_cat, List.length_cons, List.length_nil, x_cmp_ge, x_cmp_le, x_cmp_gt, x_cmp_lt, x_cmp_eq, not_true_eq_false, not_false_eq_true, true_and, and_true, Int.add_zero, Int.zero_add, Int.cast_ofNat_Int, Int.sub_zero, h25]; done) | fail) ?_; (conv => whnf)) | (refine sw_hit (by first | omega | (simp (disch := omega) only [w32_id, w64_id, x_up_p, x_up_s, x_up_o, x_fill_p, x_fill_i, x_fill_o, x_cpy_p, x_cpy_i, x_cpy_o, x_upR_p, x_upR_s, x_upR_o, x_zM_p, x_zR_p, x_set_p, x_set_s, tb_CM, tb_SM, xm_cats, xm_cat, List.length_cons, List.length_nil, x_cmp_ge, x_cmp_le, x_cmp_gt, x_cmp_lt, x_cmp_eq, not_true_eq_false, not_false_eq_true, true_and, and_true, Int.add_zero, Int.zero_add, Int.cast_ofNat_Int, Int.sub_zero, h25] <;> omega) | (simp (disch := omega) only [w32_id, w64_id, x_up_p, x_up_s, x_up_o, x_fill_p, x_fill_i, x_fill_o, x_cpy_p, x_cpy_i, x_cpy_o, x_upR_p, x_upR_s, x_upR_o, x_zM_p, x_zR_p, x_set_p, x_set_s, tb_CM, tb_SM, xm_cats, xm_cat, List.length_cons, List.length_nil, x_cmp_ge, x_cmp_le, x_cmp_gt, x_cmp_lt, x_cmp_eq, not_true_eq_false, not_false_eq_true, true_and, and_true, Int.add_zero, Int.zero_add, Int.cast_ofNat_Int, Int.sub_zero, h25]; done) | fail) ?_ (sw_vac (by first | omega | (simp (disch := omega) only [w32_id, w64_id, x_up_p, x_up_s, x_up_o, x_fill_p, x_fill_i, x_fill_o, x_cpy_p, x_cpy_i, x_cpy_o, x_upR_p, x_upR_s, x_upR_o, x_zM_p, x_zR_p, x_set_p, x_set_s, tb_CM, tb_SM, xm_cats, xm_cat, List.length_cons, List.length_nil, x_cmp_ge, x_cmp_le, x_cmp_gt, x_cmp_lt, x_cmp_eq, not_true_eq_false, not_false_eq_true, true_and, and_true, Int.add_zero, Int.zero_add, Int.cast_ofNat_Int, Int.sub_zero, h25] <;> omega) | (simp (disch := omega) only [w32_id, w64_id, x_up_p, x_up_s, x_up_o, x_fill_p, x_fill_i, x_fill_o, x_cpy_p, x_cpy_i, x_cpy_o, x_upR_p, x_upR_s, x_upR_o, x_zM_p, x_zR_p, x_set_p, x_set_s, tb_CM, tb_SM, xm_cats, xm_cat, List.length_cons, List.length_nil, x_cmp_ge, x_cmp_le, x_cmp_gt, x_cmp_lt, x_cmp_eq, not_true_eq_false, not_false_eq_true, true_and, and_true, Int.add_zero, Int.zero_add, Int.cast_ofNat_Int, Int.sub_zero, h25]; done) | fail)); (conv => whnf)) | (refine sw_next (by first | omega | (simp (disch := omega) only [w32_id, w64_id, x_up_p, x_up_s, x_up_o, x_fill_p, x_fill_i, x_fill_o, x_cpy_p, x_cpy_i, x_cpy_o, x_upR_p, x_upR_s, x_upR_o, x_zM_p, x_zR_p, x_set_p, x_set_s, tb_CM, tb_SM, xm_cats, xm_cat, List.length_cons, List.length_nil, x_cmp_ge, x_cmp_le, x_cmp_gt, x_cmp_lt, x_cmp_eq, not_true_eq_false, not_false_eq_true, true_and, and_true, Int.add_zero, Int.zero_add, Int.cast_ofNat_Int, Int.sub_zero, h25] <;> omega) | (simp (disch := omega) only [w32_id, w64_id, x_up_p, x_up_s, x_up_o, x_fill_p, x_fill_i, x_fill_o, x_cpy_p, x_cpy_i, x_cpy_o, x_upR_p, x_upR_s, x_upR_o, x_zM_p, x_zR_p, x_set_p, x_set_s, tb_CM, tb_SM, xm_cats, xm_cat, List.length_cons, List.length_nil, x_cmp_ge, x_cmp_le, x_cmp_gt, x_cmp_lt, x_cmp_eq, not_true_eq_false, not_false_eq_true, true_and, and_true, Int.add_zero, Int.zero_add, Int.cast_ofNat_Int, Int.sub_zero, h25]; done) | fail) ?_; (conv => whnf)) | (refine sw_def (by first | omega | (simp (disch := omega) only [w32_id, w64_id, x_up_p, x_up_s, x_up_o, x_fill_p, x_fill_i, x_fill_o, x_cpy_p, x_cpy_i, x_cpy_o, x_upR_p, x_upR_s, x_upR_o, x_zM_p, x_zR_p, x_set_p, x_set_s, tb_CM, tb_SM, xm_cats, xm_cat, List.length_cons, List.length_nil, x_cmp_ge, x_cmp_le, x_cmp_gt, x_cmp_lt, x_cmp_eq, not_true_eq_false, not_false_eq_true, true_and, and_true, Int.add_zero, Int.zero_add, Int.cast_ofNat_Int, Int.sub_zero, h25] <;> omega) | (simp (disch := omega) only [w32_id, w64_id, x_up_p, x_up_s, x_up_o, x_fill_p, x_fill_i, x_fill_o, x_cpy_p, x_cpy_i, x_cpy_o, x_upR_p, x_upR_s, x_upR_o, x_zM_p, x_zR_p, x_set_p, x_set_s, tb_CM, tb_SM, xm_cats, xm_cat, List.length_cons, List.length_nil, x_cmp_ge, x_cmp_le, x_cmp_gt, x_cmp_lt, x_cmp_eq, not_true_eq_false, not_false_eq_true, true_and, and_true, Int.add_zero, Int.zero_add, Int.cast_ofNat_Int, Int.sub_zero, h25]; done) | fail) ?_; (conv => whnf)) | (refine And.intro (by first | omega | (simp (disch := omega) only [w32_id, w64_id, x_up_p, x_up_s, x_up_o, x_fill_p, x_fill_i, x_fill_o, x_cpy_p, x_cpy_i, x_cpy_o, x_upR_p, x_upR_s, x_upR_o, x_zM_p, x_zR_p, x_set_p, x_set_s, tb_CM, tb_SM, xm_cats, xm_cat, List.length_cons, List.length_nil, x_cmp_ge, x_cmp_le, x_cmp_gt, x_cmp_lt, x_cmp_eq, not_true_eq_false, not_false_eq_true, true_and, and_true, Int.add_zero, Int.zero_add, Int.cast_ofNat_Int, Int.sub_zero, h25] <;> omega) | (simp (disch := omega) only [w32_id, w64_id, x_up_p, x_up_s, x_up_o, x_fill_p, x_fill_i, x_fill_o, x_cpy_p, x_cpy_i, x_cpy_o, x_upR_p, x_upR_s, x_upR_o, x_zM_p, x_zR_p, x_set_p, x_set_s, tb_CM, tb_SM, xm_cats, xm_cat, List.length_cons, List.length_nil, x_cmp_ge, x_cmp_le, x_cmp_gt, x_cmp_lt, x_cmp_eq, not_true_eq_false, not_false_eq_true, true_and, and_true, Int.add_zero, Int.zero_add, Int.cast_ofNat_Int, Int.sub_zero, h25]; done) | fail) ?_; (conv => whnf)))
  try rw [h25]
  try (refine x_go (x_rc rfl (by first | assumption | exact c_E_kd (by assumption) | exact wE_kd (by assumption) | exact c_T_kd (by assumption) | exact c_S_kd (by assumption) | exact (‹c_E _ _ _›).1 | exact tb_dyn (‹c_T _ _ _›).1 | exact (‹c_S _ _ _›).1.1) rfl) ?_; (conv => whnf))
  refine hC _ _ _ _ _ (x_238 (x := x) (y := y) (f := z) hE hx' hy hxy hc1 hg1 hb (fun M2 E2 e2 => ?_))
  have fin := hQ M2 (fun p p1 p2 => by rw [E2 p p1 p2, x_up_ne p2]) (by rw [show (0 : Int) + z * 0 = 0 by omega] at e2; exact e2)
  (conv => whnf)
  exact fin
theorem p_253 (hE : ∀ j, (eX j).1 ≤ 1000000) {y : Nat} {b r : Int} {h : Int → Int} {P : List (Int → Int)} (hr : 0 ≤ r ∧ r ≤ 4) (hb : b = 0 ∨ b = 1) (hR : ∀ i : Nat, i < 8 → R 16 (i : Int) = some (17 + 2 * i + 1)) (hP : pS M P) (hl : P.length + 2 ≤ 8) (hy : c_E ρ R y) (hc : eC M y b h 0) (hB : k_B h) (hQ : ∀ M', fP M M' → pS M' (P ++ k_pd r h) → Q (.inl none) (ρ, e, M', R, sl)) : xm_call tb_P eX tb_K0 174 (d + 2) 253 [.inr (.inr (some 10)), .inl r, .inr (.inr (some (y + 1)))] (ρ, e, M, R, sl) Q := by
  have h5 : r = 0 ∨ r = 1 ∨ r = 2 ∨ r = 3 ∨ r = 4 := by omega
  rcases h5 with rfl | rfl | rfl | rfl | rfl
  · exact p_253_0 hE hb hR hP rfl (by omega) hy hc hB hQ
  · exact p_253_1 hE hb hR hP rfl (by omega) hy hc hB hQ
  · exact p_253_2 hE hb hR hP rfl (by omega) hy hc hB (fun M' a q => hQ M' a (by rw [List.append_assoc] at q; exact q))
  · exact p_253_3 hE hb hR hP rfl (by omega) hy hc hB hQ
  · exact p_253_4 hE hb hR hP rfl (by omega) hy hc hB hQ
end
theorem k_in_f {g h : Int → Int} {z : Int} (h1 : k_in 2000000 g z) (h2 : k_in 1000000 h 0) : ∀ k, 0 ≤ k → k < 25 → (-2000000000000 ≤ z * h k ∧ z * h k ≤ 2000000000000) ∧ -2000002000000 ≤ k_p g h z k ∧ k_p g h z k ≤ 2000002000000 := fun k k0 k1 => by
  have a1 := h1.1 k k0 k1
  have a2 := h1.2
  have a3 := h2.1 k k0 k1
  have hm : (z * h k).natAbs ≤ 2000000 * 1000000 := by
    rw [Int.natAbs_mul]
    exact Nat.mul_le_mul (by omega) (by omega)
  have e : k_p g h z k = g k + z * h k := rfl
  rw [e]
  generalize z * h k = u at hm ⊢
  omega
/-- something is pending -/
def wP (fs : Nat) (tr : Nat → c_t) (f : Nat) (t : Int) (s : k_s) (G : List c_g) (tn st : Int) (ρ : Nat → Option xk) (e : Nat) (M : Nat → Int → Int) (R : Nat → Int → Option Nat) (sl : Nat) (ow : Nat → Int) (P : List (Int → Int)) : Prop := wS fs tr f t s G tn st ρ e (x_up M 9 6 0) R sl ow ∧ pS M P
theorem x_up_same {M : Nat → Int → Int} {q : Nat} {j : Int} {z : Int} (h : M q j = z) : x_up M q j z = M := by
  funext p i
  unfold x_up
  split
  · rename_i h'
    rw [h'.1, h'.2, h]
  · rfl
section
variable {fs f : Nat} {tr : Nat → c_t} {t : Int} {s s' : k_s} {G : List c_g} {ρ ρ1 : Nat → Option xk} {e e1 : Nat} {R R1 : Nat → Int → Option Nat} {sl sl1 : Nat} {ow ow1 : Nat → Int} {M M1 M2 : Nat → Int → Int} {X : Nat → Prop} {lo hi n tn st : Int} {P : List (Int → Int)}
theorem wP_0 (h : wS fs tr f t s G tn st ρ e M R sl ow) : wP fs tr f t s G tn st ρ e M R sl ow [] := by
  have h6 := h.2.2.2.2.1.2.2.1
  refine ⟨by rw [x_up_same h6]; exact h, h6, by simp, fun i g hi => by cases hi⟩
/-- the ground's own cells may change -/
theorem wS_gr (hS : wS fs tr f t s G tn st ρ e M R sl ow) (hg : kG ρ e R sl ow ρ e R1 sl ow) (hR : ∀ p i, p ≠ 10 → R1 p i = R p i) (h10 : w10 R1) (hM : ∀ p, (p < 9 ∨ p = 16 ∨ 32 < p) → M1 p = M p) (hgs : gS M1 s' ∧ sW s' ∧ M1 9 6 = 0 ∧ M1 9 13 = -1) (h5 : s'.1 5 = s.1 5 ∧ s'.1 6 = s.1 6) : wS fs tr f t s' G tn st ρ e M1 R1 sl ow ∧ ∀ X lo hi n tn1 st1, wF X ((tr f).1 + 175) lo hi n e tn1 st1 ow M R M1 R1 := by
  have hS' := hS
  obtain ⟨⟨a1, a2, a3⟩, ⟨b1, b2, b3, b4, b5⟩, ⟨c1, c2, c3, c4, c5⟩, ⟨d1, d2⟩, ⟨g1, g2, g3⟩, i1, j1, ⟨k1, k2, k3⟩, l1⟩ := hS
  have hf : ∀ X lo hi n tn1 st1, wF X ((tr f).1 + 175) lo hi n e tn1 st1 ow M R M1 R1 := fun X lo hi n tn1 st1 => ⟨fun p kk _ _ => hM p (by have := kk.2.1; omega), fun j _ _ => ⟨by rw [hM 35 (by omega)], hR 36 j (by decide)⟩, fun j _ _ _ _ _ => by rw [hM 8 (by omega)], fun j _ => by rw [hM _ (by omega)], fun p i hp => hR p i hp.2.1⟩
  refine ⟨wS_go hS' hg (kHp_R a1 (fun x i h _ _ => hR x i h)) (hf (fun _ => False) 0 0 G.length tn st) (Int.le_refl _) (fun g _ => ⟨fun q => q, fun q => q⟩) (fun p q => q.elim) ⟨by rw [hM 8 (by omega)]; exact b1, by rw [hM 8 (by omega)]; exact b2, by rw [hM 8 (by omega)]; exact b3⟩ (by omega) hgs ⟨by rw [hM 8 (by omega), h5.1]; exact i1.1, by rw [hM 8 (by omega), h5.2]; exact i1.2⟩ h10 (by rw [hM _ (by omega)]; exact (wS_T hS' k3).2.2.2.1), hf⟩
theorem gS_P (h : wS fs tr f t s G tn st ρ e (x_up M 9 6 0) R sl ow) : gS M s := gS_fr h.2.2.2.2.1.1 (fun j _ _ => (x_up_o (by omega)).symm) (x_up_ne (by decide)).symm (x_up_ne (by decide)).symm
/-- more is pending -/
theorem wP_p (h : wP fs tr f t s G tn st ρ e M R sl ow P) {P' : List (Int → Int)} (hf : fP M M1) (hp : pS M1 P') : wP fs tr f t s G tn st ρ e M1 R sl ow P' ∧ ∀ X lo hi n tn1 st1, wF X ((tr f).1 + 175) lo hi n e tn1 st1 ow M R M1 R := by
  obtain ⟨h1, h2⟩ := h
  have g3 := h1.2.2.2.2.1
  have w := wS_gr (M1 := x_up M1 9 6 0) h1 kG_rf (fun _ _ _ => rfl) h1.2.2.2.2.2.2.1 (fun p hp => by rw [x_up_ne (by omega), x_up_ne (by omega)]; exact hf.1 p (by omega) (by omega)) ⟨gS_fr g3.1 (fun j j0 j1 => by rw [x_up_o (by omega), x_up_o (by omega)]; exact hf.2 j (by omega)) (by rw [x_up_ne (by decide), x_up_ne (by decide)]; exact hf.1 14 (by decide) (by decide)) (by rw [x_up_ne (by decide), x_up_ne (by decide)]; exact hf.1 15 (by decide) (by decide)), g3.2.1, x_up_s rfl, by have := g3.2.2.2; rw [x_up_o (by decide)] at this ⊢; rw [hf.2 13 (by decide)]; exact this⟩ ⟨rfl, rfl⟩
  refine ⟨⟨w.1, hp⟩, fun X lo hi n tn1 st1 => ⟨fun p kk _ _ => hf.1 p (fun q => by have := kk.2.1; omega) (by have := kk.2.1; omega), fun j _ _ => ⟨by rw [hf.1 35 (by decide) (by decide)], rfl⟩, fun j _ _ _ _ _ => by rw [hf.1 8 (by decide) (by decide)], fun j _ => by rw [hf.1 _ (by omega) (by omega)], fun _ _ _ => rfl⟩⟩
theorem wP_R (h : wP fs tr f t s G tn st ρ e M R sl ow P) : (∀ i : Nat, i < 8 → R 16 (i : Int) = some (17 + 2 * i + 1)) ∧ w10 R ∧ (e ≤ 1580 ∧ sl + 20000 ≤ 7293034) ∧ sW s ∧ gS M s := by
  obtain ⟨h1, h2⟩ := h
  exact ⟨h1.1.1.2.2, h1.2.2.2.2.2.2.1, rm_in2 h1.1.2.1 h1.1.2.2, h1.2.2.2.2.1.2.1, gS_P h1⟩
theorem wX_P {w a : Int} {Q : xK} {qt : Nat} (h : wX fs tr qt w a ρ e M R sl ow Q) : wX fs tr qt w a ρ e (x_up M 9 6 0) R sl ow Q := by
  intro ρ2 e2 R2 sl2 ow2 M' g1 g2 g3 g4 g5 g6 g7
  refine h ρ2 e2 R2 sl2 ow2 M' g1 g2 g3 g4 g5 g6 ⟨fun p k q => ?_, fun j c1 c2 c3 c4 c5 => ?_, g7.2.2⟩
  · rw [g7.1 p k q, x_up_ne (fun z => by have := k.2.1; omega)]
  · rw [g7.2.1 j c1 c2 c3 c4 c5, x_up_ne (by decide)]
end
section
variable {ρ : Nat → Option xk} {e sl d : Nat} {M : Nat → Int → Int} {R : Nat → Int → Option Nat} {eX : Nat → Nat × (Nat → Int32)} {Q : xK}
variable {ow : Nat → Int} {fs f : Nat} {tr : Nat → c_t} {t : Int} {s : k_s} {G : List c_g} {tn st : Int} {P : List (Int → Int)}
/-- what is pending is told as facts -/
theorem w_254 (hE : ∀ j, (eX j).1 ≤ 1000000) {pl : Int} (h : wP fs tr f t s G tn st ρ e M R sl ow P) (hz : ∀ h ∈ P, k_z (s.1 0) h) (hQ1 : ∀ s', k_afs pl P s = .inr s' → ∀ M1, wS fs tr f t s' G tn st ρ e M1 R sl ow → (∀ X lo hi n tn1 st1, wF X ((tr f).1 + 175) lo hi n e tn1 st1 ow M R M1 R) → (∀ p, p ≠ 9 → p ≠ 14 → M1 p = M p) → Q (.inl none) (ρ, e, M1, R, sl)) (hQ2 : ∀ w a, k_afs pl P s = .inl (w, a) → wX fs tr ((tr f).1 + 175) w a ρ e M R sl ow Q) : xm_call tb_P eX tb_K0 174 (d + 4) 254 [.inr (.inr (some 10)), .inl pl] (ρ, e, M, R, sl) Q := by
  obtain ⟨r1, r2, r3, r4, r5⟩ := wP_R h
  refine p_254 (s := s) (P := P) hE r5 h.2 r1 (by omega) (fun s' hs' M1 m1 m2 m3 => ?_) (fun w a hs' M1 m1 m2 m3 => ?_)
  · have k := k_afs_i hs'
    have w := wS_gr (M1 := M1) h.1 kG_rf (fun _ _ _ => rfl) r2 (fun p hp => by rw [m3.1 p (by omega) (by omega), x_up_ne (by omega)]) ⟨m1, (sW_afs r4 hz hs').1, m2, by have := h.1.2.2.2.2.1.2.2.2; rw [x_up_o (by decide)] at this; rw [m3.2 13 (by decide) (by decide)]; exact this⟩ ⟨k.1 5 (by decide), k.1 6 (by decide)⟩
    exact hQ1 s' hs' M1 w.1 (fun X lo hi n tn1 st1 => ⟨fun p kk _ _ => m3.1 p (fun q => by have := kk.2.1; omega) (fun q => by have := kk.2.1; omega), fun j _ _ => ⟨by rw [m3.1 35 (by decide) (by decide)], rfl⟩, fun j _ _ _ _ _ => by rw [m3.1 8 (by decide) (by decide)], fun j _ => by rw [m3.1 _ (by omega) (by omega)], fun _ _ _ => rfl⟩) m3.1
  · exact wX_go h.1 (wX_P (hQ2 w a hs')) (rR_rf r2) (fun p hp => by rw [m3 p (fun q => by have := hp.2.1; omega) (fun q => by have := hp.2.1; omega) hp.1, x_up_ne (fun q => by have := hp.2.1; omega)]) (by rw [m3 8 (by decide) (by decide) (by omega), x_up_ne (by decide)]) m1 m2
/-- or as goals -/
theorem w_257 (hE : ∀ j, (eX j).1 ≤ 1000000) {pl so : Int} (hso : 0 ≤ so ∧ so ≤ 4) (h : wP fs tr f t s G tn st ρ e M R sl ow P) (hz : ∀ h ∈ P, k_z (s.1 0) h) (hQ1 : ∀ s', k_ags f pl so P s = .inr s' → ∀ M1 R1, kG ρ e R sl ow ρ e R1 sl ow → wS fs tr f t s' G tn st ρ e M1 R1 sl ow → (∀ X lo hi n tn1 st1, wF X ((tr f).1 + 175) lo hi n e tn1 st1 ow M R M1 R1) → (∀ p, p < 9 ∨ 15 < p → M1 p = M p) → (∀ p i, p ≠ 10 → R1 p i = R p i) → Q (.inl (some (.inl (k_al s.2.1 (s.1 1) P 1)))) (ρ, e, M1, R1, sl)) (hQ2 : ∀ w a, k_ags f pl so P s = .inl (w, a) → wX fs tr ((tr f).1 + 175) w a ρ e M R sl ow Q) : xm_call tb_P eX tb_K0 174 (d + 6) 257 [.inr (.inr (some 10)), .inl (f : Int), .inl pl, .inl so] (ρ, e, M, R, sl) Q := by
  obtain ⟨r1, r2, r3, r4, r5⟩ := wP_R h
  refine p_257 (s := s) (P := P) (f := (f : Int)) (pl := pl) (sort := so) hE hso r5 r4 h.2 hz r1 r2 (by omega) (fun s' hs' M1 R1 m1 m2 m3 m4 => ?_) (fun w a hs' M1 R1 m1 m2 m3 m4 => ?_)
  · have k := k_ags_i hs'
    have w := wS_gr (M1 := M1) h.1 (kG_rR m4) (fun p i hp => m4.1 p i hp) m4.2 (fun p hp => by rw [m3.1 p (by omega) (by omega) (by omega) (by omega) (by omega) (by omega), x_up_ne (by omega)]) ⟨m1, (k_ags_keep r4 hs').1, m2, by have := h.1.2.2.2.2.1.2.2.2; rw [x_up_o (by decide)] at this; rw [m3.2 13 (by decide) (by decide) (by decide) (by decide)]; exact this⟩ ⟨k.1 5 (by decide) (by decide) (by decide), k.1 6 (by decide) (by decide) (by decide)⟩
    have mm : ∀ p, p < 9 ∨ 15 < p → M1 p = M p := fun p hp => m3.1 p (by omega) (by omega) (by omega) (by omega) (by omega) (by omega)
    exact hQ1 s' hs' M1 R1 (kG_rR m4) w.1 (fun X lo hi n tn1 st1 => ⟨fun p kk _ _ => mm p (by have := kk.2.1; omega), fun j _ _ => ⟨by rw [mm 35 (by decide)], m4.1 36 j (by decide)⟩, fun j _ _ _ _ _ => by rw [mm 8 (by decide)], fun j _ => by rw [mm _ (by omega)], fun p i hp => m4.1 p i hp.2.1⟩) mm (fun p i hp => m4.1 p i hp)
  · exact wX_go h.1 (wX_P (hQ2 w a hs')) m4 (fun p hp => by
      have := hp.2.1
      rw [m3 p (by omega) (by omega) (by omega) (by omega) (by omega) (by omega) hp.1, x_up_ne (by omega)]) (by rw [m3 8 (by decide) (by decide) (by decide) (by decide) (by decide) (by decide) (by omega), x_up_ne (by decide)]) m1 m2
/-- a fact -/
theorem w_255 (hE : ∀ j, (eX j).1 ≤ 1000000) {pl b : Int} {x : Nat} {h : Int → Int} (hS : wS fs tr f t s G tn st ρ e M R sl ow) (hx : c_E ρ R x) (he : eC M x b h 0) (hz : k_z (s.1 0) h) (hQ1 : ∀ s', k_af pl h s = .inr s' → ∀ M1, wS fs tr f t s' G tn st ρ e M1 R sl ow → (∀ X lo hi n tn1 st1, wF X ((tr f).1 + 175) lo hi n e tn1 st1 ow M R M1 R) → (∀ p, p ≠ 9 → p ≠ 14 → M1 p = M p) → Q (.inl none) (ρ, e, M1, R, sl)) (hQ2 : ∀ w a, k_af pl h s = .inl (w, a) → wX fs tr ((tr f).1 + 175) w a ρ e M R sl ow Q) : xm_call tb_P eX tb_K0 174 (d + 2) 255 [.inr (.inr (some 10)), .inr (.inr (some (x + 1))), .inl pl] (ρ, e, M, R, sl) Q := by
  have hge := c_E_ge hx
  have g := hS.2.2.2.2.1
  have room := rm_in2 hS.1.2.1 hS.1.2.2
  refine p_255 (s := s) hE g.1 (by omega) hx (fun hv => ?_) (fun hv M1 m1 => ?_)
  · have hs' : k_af pl h s = .inr (t_u s.1 1 (s.1 1 + 1), k_ur s.2.1 (s.1 1) h, s.2.2) := by
      unfold k_af
      rw [if_neg (by omega)]
    have m3 : ∀ p, p ≠ 9 → p ≠ 14 → x_up (x_cpy M (x + 1) 14 0 (s.1 1 * 25) 25) 9 7 (s.1 1 + 1) p = M p := fun p p1 p2 => by
      rw [x_up_ne p1]
      funext i
      exact x_cpy_p p2
    have w := wS_gr (M1 := x_up (x_cpy M (x + 1) 14 0 (s.1 1 * 25) 25) 9 7 (s.1 1 + 1)) hS kG_rf (fun _ _ _ => rfl) hS.2.2.2.2.2.2.1 (fun p hp => m3 p (by omega) (by omega)) ⟨gS_af g.1 hv he.2 (by omega), (sW_af g.2.1 hz hs').1, by rw [x_up_o (by decide), x_cpy_p (by decide)]; exact g.2.2.1, by rw [x_up_o (by decide), x_cpy_p (by decide)]; exact g.2.2.2⟩ ⟨by dsimp only; rw [t_u_o (by decide)], by dsimp only; rw [t_u_o (by decide)]⟩
    exact hQ1 _ hs' _ w.1 w.2 m3
  · have hs' : k_af pl h s = .inl (-8, pl) := by
      unfold k_af
      rw [if_pos hv]
    exact wX_go hS (hQ2 _ _ hs') (rR_rf hS.2.2.2.2.2.2.1) (fun p hp => m1.2.2 p (fun q => by have := hp.2.1; omega) hp.1) (m1.2.2 8 (by decide) (by omega)) m1.1 m1.2.1
/-- a variable -/
theorem w_252 (hE : ∀ j, (eX j).1 ≤ 1000000) {pl : Int} (hS : wS fs tr f t s G tn st ρ e M R sl ow) (hQ1 : ∀ y, k_nv pl s = .inr y → (0 ≤ y.2 ∧ y.2 < 24 ∧ y.2 < y.1.1 0 ∧ s.1 0 ≤ y.1.1 0) → ∀ M1, wS fs tr f t y.1 G tn st ρ e M1 R sl ow → (∀ X lo hi n tn1 st1, wF X ((tr f).1 + 175) lo hi n e tn1 st1 ow M R M1 R) → (∀ p, p ≠ 9 → M1 p = M p) → Q (.inl (some (.inl y.2))) (ρ, e, M1, R, sl)) (hQ2 : ∀ w a, k_nv pl s = .inl (w, a) → wX fs tr ((tr f).1 + 175) w a ρ e M R sl ow Q) : xm_call tb_P eX tb_K0 174 (d + 2) 252 [.inr (.inr (some 10)), .inl pl] (ρ, e, M, R, sl) Q := by
  have g := hS.2.2.2.2.1
  have room := rm_in2 hS.1.2.1 hS.1.2.2
  have g0 := g.1.1
  refine p_252 (s := s) hE g.1 (by omega) (fun hv => ?_) (fun hv M1 m1 => ?_)
  · have hs' : k_nv pl s = .inr ((t_u s.1 0 (s.1 0 + 1), s.2), s.1 0) := by
      unfold k_nv
      rw [if_neg (by omega)]
    have w := wS_gr (M1 := x_up M 9 8 (s.1 0 + 1)) hS kG_rf (fun _ _ _ => rfl) hS.2.2.2.2.2.2.1 (fun p hp => x_up_ne (by omega)) ⟨gS_nv g.1 hv, sW_nv g.2.1, by rw [x_up_o (by decide)]; exact g.2.2.1, by rw [x_up_o (by decide)]; exact g.2.2.2⟩ ⟨by dsimp only; rw [t_u_o (by decide)], by dsimp only; rw [t_u_o (by decide)]⟩
    exact hQ1 _ hs' ⟨by dsimp only; omega, by dsimp only; omega, by dsimp only; rw [t_u_s rfl]; omega, by dsimp only; rw [t_u_s rfl]; omega⟩ _ w.1 w.2 (fun p hp => x_up_ne hp)
  · have hs' : k_nv pl s = .inl (-8, pl) := by
      unfold k_nv
      rw [if_pos hv]
    exact wX_go hS (hQ2 _ _ hs') (rR_rf hS.2.2.2.2.2.2.1) (fun p hp => m1.2.2 p (fun q => by have := hp.2.1; omega) hp.1) (m1.2.2 8 (by decide) (by omega)) m1.1 m1.2.1
end

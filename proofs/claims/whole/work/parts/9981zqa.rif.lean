/-! THE REFERENCE GOES OVER STEPS: if -/
theorem sW_afs {pl : Int} : ∀ {l : List (Int → Int)} {s s' : k_s}, sW s → (∀ x ∈ l, k_z (s.1 0) x) → k_afs pl l s = .inr s' → sW s' ∧ s'.1 0 = s.1 0 ∧ s'.2.2.2 = s.2.2.2
  | [], s, s', hw, _, h => by cases h; exact ⟨hw, rfl, rfl⟩
  | x :: l, s, s', hw, hz, h => by
    obtain ⟨s1, h1, h2⟩ := k_b_inv (show k_b (k_af pl x s) (k_afs pl l) = .inr s' from h)
    obtain ⟨w1, v1⟩ := sW_af hw (hz x (List.mem_cons_self ..)) h1
    have nf : s1.2.2.2 = s.2.2.2 := by
      unfold k_af at h1
      split at h1
      · cases h1
      · cases h1; rfl
    obtain ⟨a1, a2, a3⟩ := sW_afs w1 (fun z hz' => by rw [v1]; exact hz z (List.mem_cons_of_mem _ hz')) h2
    exact ⟨a1, a2.trans v1, a3.trans nf⟩
theorem qS_bk {M N : Nat → Int → Int} {s : k_s} {v m : Int} (hq : qS M s) (hv : 0 ≤ v ∧ v ≤ 24) (hm : 0 ≤ m ∧ m ≤ s.1 1) (n1 : N 81 76 = v) (n2 : N 81 77 = m) (n3 : ∀ j, j = 62 ∨ j = 64 ∨ j = 65 → N 81 j = M 81 j) (n4 : ∀ q, (128 ≤ q ∧ q ≤ 134) → N q = M q) : qS N (k_bk v m s) := by
  obtain ⟨b1, b2, b3, b4, b5, b6, b7⟩ := hq
  have z0 : (k_bk v m s).1 0 = v := by show t_u (t_u s.1 0 v) 1 m 0 = v; rw [t_u_o (by decide), t_u_s rfl]
  have z1 : (k_bk v m s).1 1 = m := by show t_u (t_u s.1 0 v) 1 m 1 = m; rw [t_u_s rfl]
  have zo : ∀ i, i ≠ 0 → i ≠ 1 → (k_bk v m s).1 i = s.1 i := fun i i0 i1 => by show t_u (t_u s.1 0 v) 1 m i = _; rw [t_u_o i1, t_u_o i0]
  refine ⟨?_, ?_, ?_, ?_, ?_, ?_, ?_⟩
  · rw [z0, n1]; exact ⟨rfl, hv⟩
  · rw [z1, n2]; omega
  · rw [zo 2 (by decide) (by decide), n3 62 (by omega)]; exact b3
  · rw [zo 2 (by decide) (by decide), zo 5 (by decide) (by decide), n3 64 (by omega)]; exact b4
  · rw [zo 6 (by decide) (by decide), zo 5 (by decide) (by decide), n3 65 (by omega)]; exact b5
  · rw [z1]
    intro j j0 j1 q q0 q1
    rw [n4 134 (by decide)]
    exact b6 j j0 (by omega) q q0 q1
  · rw [zo 2 (by decide) (by decide)]
    intro j j0 j1
    rw [n4 128 (by decide), n4 129 (by decide), n4 130 (by decide), n4 131 (by decide), n4 132 (by decide), n4 133 (by decide)]
    exact b7 j j0 j1
theorem k_bk_0 {v m : Int} {s : k_s} : (k_bk v m s).1 0 = v := by show t_u (t_u s.1 0 v) 1 m 0 = v; rw [t_u_o (by decide), t_u_s rfl]
theorem k_bk_1 {v m : Int} {s : k_s} : (k_bk v m s).1 1 = m := by show t_u (t_u s.1 0 v) 1 m 1 = m; rw [t_u_s rfl]
theorem sW_bk {s s' : k_s} (hw : sW s) (h : kM s s') : sW (k_bk (s.1 0) (s.1 1) s') := fun j j0 j1 => by
  rw [k_bk_1] at j1
  rw [k_bk_0]
  show k_z (s.1 0) (s'.2.1 j)
  rw [h.2.2 j j1]
  exact hw j j0 j1
theorem k_no_neg {pl r c a : Int} {h : Int → Int} {s : k_s} (q : k_no pl r h s = .inl (c, a)) : c < 0 := by
  unfold k_no at q
  split at q
  · cases q
  · exact k_afs_neg q
theorem k_jn_neg {pl pe v b b' c a : Int} {h h' : Int → Int} {s : k_s} (q : k_jn pl pe v b h b' h' s = .inl (c, a)) : c < 0 := by
  unfold k_jn at q
  split at q
  · cases q; decide
  · by_cases hc : k_e h h' ∧ k_u v h 0
    · rw [k_if_t hc] at q
      cases q
    · rw [k_if_f hc] at q
      rcases k_b_inl q with h1 | ⟨z, h1, h2⟩
      · exact k_nv_neg h1
      · try dsimp only at h2
        split at h2
        · rcases k_b_inl h2 with h3 | ⟨u, h3, h4⟩
          · exact k_af_neg h3
          · cases h4
        · cases h2
theorem k_rf_1 {pl rel : Int} {g : Int → Int} {s : k_s} (h : 0 ≤ rel) : k_rf pl rel g s = k_afs pl (k_pd rel g) s := if_neg (by omega)
theorem k_rf_2 {pl rel : Int} {g : Int → Int} {s : k_s} (h : 0 ≤ rel ∧ rel ≤ 4) : k_rf pl (if rel = 2 then -1 else k_ct rel) g s = k_no pl rel g s := by
  unfold k_no
  by_cases h2 : rel = 2
  · rw [if_pos h2, if_pos h2]
    rfl
  · rw [if_neg h2, if_neg h2]
    refine k_rf_1 ?_
    unfold k_ct
    split
    · decide
    · split
      · decide
      · split <;> decide
/-- a gap of two values -/
theorem k_z_g2 {v : Int} {a b : Int → Int} (ha : k_in 1000000 a 0) (hb : k_in 1000000 b 0) (za : ∀ q, v ≤ q → q < 24 → a q = 0) (zb : ∀ q, v ≤ q → q < 24 → b q = 0) : (∀ q, 0 ≤ q → q < 25 → -100000000000000 ≤ k_p b a (-1) q ∧ k_p b a (-1) q ≤ 100000000000000) ∧ ∀ q, v ≤ q → q < 24 → k_p b a (-1) q = 0 := ⟨fun q q0 q1 => by
  have h1 := ha.1 q q0 q1
  have h2 := hb.1 q q0 q1
  show -100000000000000 ≤ b q + -1 * a q ∧ b q + -1 * a q ≤ 100000000000000
  omega, fun q q0 q1 => by
  show b q + -1 * a q = 0
  rw [za q q0 q1, zb q q0 q1]
  rfl⟩
section
variable {ρ : Nat → Option xk} {e sl d : Nat} {M : Nat → Int → Int} {R : Nat → Int → Option Nat} {eX : Nat → Nat × (Nat → Int32)} {Q : xK}
set_option linter.unusedSimpArgs false in
set_option maxRecDepth 100000 in
set_option maxHeartbeats 4000000 in
theorem y_111 (hE : ∀ j, (eX j).1 ≤ 1000000) {rel : Int} (hrel : 0 ≤ rel ∧ rel ≤ 4) (hQ : Q (.inl (some (.inl (if rel = 2 then -1 else k_ct rel)))) (ρ, e, M, R, sl)) : xm_call tb_P eX tb_K0 174 (d + 1) 111 [.inl rel] (ρ, e, M, R, sl) Q := by
  have h5 : rel = 0 ∨ rel = 1 ∨ rel = 2 ∨ rel = 3 ∨ rel = 4 := by omega
  rcases h5 with rfl | rfl | rfl | rfl | rfl
  all_goals
    refine xm_run hE (fun _ _ => none) (fun _ => false) (fun F C hF hC => ?_)
    (conv => whnf)
    repeat (first | (refine br_t (by first | omega | (simp (disch := omega) only [w32_id, w64_id, x_up_p, x_up_s, x_up_o, x_fill_p, x_fill_i, x_fill_o, x_cpy_p, x_cpy_i, x_cpy_o, x_upR_p, x_upR_s, x_upR_o, x_zM_p, x_zR_p, x_set_p, x_set_s, tb_CM, tb_SM, xm_cats, xm_cat, List.length_cons, List.length_nil, x_cmp_ge, x_cmp_le, x_cmp_gt, x_cmp_lt, x_cmp_eq, not_true_eq_false, not_false_eq_true, true_and, and_true, Int.add_zero, Int.zero_add, Int.cast_ofNat_Int, Int.sub_zero] <;> omega) | (simp (disch := omega) only [w32_id, w64_id, x_up_p, x_up_s, x_up_o, x_fill_p, x_fill_i, x_fill_o, x_cpy_p, x_cpy_i, x_cpy_o, x_upR_p, x_upR_s, x_upR_o, x_zM_p, x_zR_p, x_set_p, x_set_s, tb_CM, tb_SM, xm_cats, xm_cat, List.length_cons, List.length_nil, x_cmp_ge, x_cmp_le, x_cmp_gt, x_cmp_lt, x_cmp_eq, not_true_eq_false, not_false_eq_true, true_and, and_true, Int.add_zero, Int.zero_add, Int.cast_ofNat_Int, Int.sub_zero]; done) | fail) ?_; (conv => whnf)) | (refine br_f (by first | omega | (simp (disch := omega) only [w32_id, w64_id, x_up_p, x_up_s, x_up_o, x_fill_p, x_fill_i, x_fill_o, x_cpy_p, x_cpy_i, x_cpy_o, x_upR_p, x_upR_s, x_upR_o, x_zM_p, x_zR_p, x_set_p, x_set_s, tb_CM, tb_SM, xm_cats, xm_cat, List.length_cons, List.length_nil, x_cmp_ge, x_cmp_le, x_cmp_gt, x_cmp_lt, x_cmp_eq, not_true_eq_false, not_false_eq_true, true_and, and_true, Int.add_zero, Int.zero_add, Int.cast_ofNat_Int, Int.sub_zero] <;> omega) | (simp (disch := omega) only [w32_id, w64_id, x_up_p, x_up_s, x_up_o, x_fill_p, x_fill_i, x_fill_o, x_cpy_p, x_cpy_i, x_cpy_o, x_upR_p, x_upR_s, x_upR_o, x_zM_p, x_zR_p, x_set_p, x_set_s, tb_CM, tb_SM, xm_cats, xm_cat, List.length_cons, List.length_nil, x_cmp_ge, x_cmp_le, x_cmp_gt, x_cmp_lt, x_cmp_eq, not_true_eq_false, not_false_eq_true, true_and, and_true, Int.add_zero, Int.zero_add, Int.cast_ofNat_Int, Int.sub_zero]; done) | fail) ?_; (conv => whnf)) | (refine sw_in (by first | omega | (simp (disch := omega) only [w32_id, w64_id, x_up_p, x_up_s, x_up_o, x_fill_p, x_fill_i, x_fill_o, x_cpy_p, x_cpy_i, x_cpy_o, x_upR_p, x_upR_s, x_upR_o, x_zM_p, x_zR_p, x_set_p, x_set_s, tb_CM, tb_SM, xm_cats, xm_cat, List.length_cons, List.length_nil, x_cmp_ge, x_cmp_le, x_cmp_gt, x_cmp_lt, x_cmp_eq, not_true_eq_false, not_false_eq_true, true_and, and_true, Int.add_zero, Int.zero_add, Int.cast_ofNat_Int, Int.sub_zero] <;> omega) | (simp (disch := omega) only [w32_id, w64_id, x_up_p, x_up_s, x_up_o, x_fill_p, x_fill_i, x_fill_o, x_cpy_p, x_cpy_i, x_cpy_o, x_upR_p, x_upR_s, x_upR_o, x_zM_p, x_zR_p, x_set_p, x_set_s, tb_CM, tb_SM, xm_cats, xm_cat, List.length_cons, List.length_nil, x_cmp_ge, x_cmp_le, x_cmp_gt, x_cmp_lt, x_cmp_eq, not_true_eq_false, not_false_eq_true, true_and, and_true, Int.add_zero, Int.zero_add, Int.cast_ofNat_Int, Int.sub_zero]; done) | fail) ?_; (conv => whnf)) | (refine sw_hit (by first | omega | (simp (disch := omega) only [w32_id, w64_id, x_up_p, x_up_s, x_up_o, x_fill_p, x_fill_i, x_fill_o, x_cpy_p, x_cpy_i, x_cpy_o, x_upR_p, x_upR_s, x_upR_o, x_zM_p, x_zR_p, x_set_p, x_set_s, tb_CM, tb_SM, xm_cats, xm_cat, List.length_cons, List.length_nil, x_cmp_ge, x_cmp_le, x_cmp_gt, x_cmp_lt, x_cmp_eq, not_true_eq_false, not_false_eq_true, true_and, and_true, Int.add_zero, Int.zero_add, Int.cast_ofNat_Int, Int.sub_zero] <;> omega) | (simp (disch := omega) only [w32_id, w64_id, x_up_p, x_up_s, x_up_o, x_fill_p, x_fill_i, x_fill_o, x_cpy_p, x_cpy_i, x_cpy_o, x_upR_p, x_upR_s, x_upR_o, x_zM_p, x_zR_p, x_set_p, x_set_s, tb_CM, tb_SM, xm_cats, xm_cat, List.length_cons, List.length_nil, x_cmp_ge, x_cmp_le, x_cmp_gt, x_cmp_lt, x_cmp_eq, not_true_eq_false, not_false_eq_true, true_and, and_true, Int.add_zero, Int.zero_add, Int.cast_ofNat_Int, Int.sub_zero]; done) | fail) ?_ (sw_vac (by first | omega | (simp (disch := omega) only [w32_id, w64_id, x_up_p, x_up_s, x_up_o, x_fill_p, x_fill_i, x_fill_o, x_cpy_p, x_cpy_i, x_cpy_o, x_upR_p, x_upR_s, x_upR_o, x_zM_p, x_zR_p, x_set_p, x_set_s, tb_CM, tb_SM, xm_cats, xm_cat, List.length_cons, List.length_nil, x_cmp_ge, x_cmp_le, x_cmp_gt, x_cmp_lt, x_cmp_eq, not_true_eq_false, not_false_eq_true, true_and, and_true, Int.add_zero, Int.zero_add, Int.cast_ofNat_Int, Int.sub_zero] <;> omega) | (simp (disch := omega) only [w32_id, w64_id, x_up_p, x_up_s, x_up_o, x_fill_p, x_fill_i, x_fill_o, x_cpy_p, x_cpy_i, x_cpy_o, x_upR_p, x_upR_s, x_upR_o, x_zM_p, x_zR_p, x_set_p, x_set_s, tb_CM, tb_SM, xm_cats, xm_cat, List.length_cons, List.length_nil, x_cmp_ge, x_cmp_le, x_cmp_gt, x_cmp_lt, x_cmp_eq, not_true_eq_false, not_false_eq_true, true_and, and_true, Int.add_zero, Int.zero_add, Int.cast_ofNat_Int, Int.sub_zero]; done) | fail)); (conv => whnf)) | (refine sw_next (by first | omega | (simp (disch := omega) only [w32_id, w64_id, x_up_p, x_up_s, x_up_o, x_fill_p, x_fill_i, x_fill_o, x_cpy_p, x_cpy_i, x_cpy_o, x_upR_p, x_upR_s, x_upR_o, x_zM_p, x_zR_p, x_set_p, x_set_s, tb_CM, tb_SM, xm_cats, xm_cat, List.length_cons, List.length_nil, x_cmp_ge, x_cmp_le, x_cmp_gt, x_cmp_lt, x_cmp_eq, not_true_eq_false, not_false_eq_true, true_and, and_true, Int.add_zero, Int.zero_add, Int.cast_ofNat_Int, Int.sub_zero] <;> omega) | (simp (disch := omega) only [w32_id, w64_id, x_up_p, x_up_s, x_up_o, x_fill_p, x_fill_i, x_fill_o, x_cpy_p, x_cpy_i, x_cpy_o, x_upR_p, x_upR_s, x_upR_o, x_zM_p, x_zR_p, x_set_p, x_set_s, tb_CM, tb_SM, xm_cats, xm_cat, List.length_cons, List.length_nil, x_cmp_ge, x_cmp_le, x_cmp_gt, x_cmp_lt, x_cmp_eq, not_true_eq_false, not_false_eq_true, true_and, and_true, Int.add_zero, Int.zero_add, Int.cast_ofNat_Int, Int.sub_zero]; done) | fail) ?_; (conv => whnf)) | (refine sw_def (by first | omega | (simp (disch := omega) only [w32_id, w64_id, x_up_p, x_up_s, x_up_o, x_fill_p, x_fill_i, x_fill_o, x_cpy_p, x_cpy_i, x_cpy_o, x_upR_p, x_upR_s, x_upR_o, x_zM_p, x_zR_p, x_set_p, x_set_s, tb_CM, tb_SM, xm_cats, xm_cat, List.length_cons, List.length_nil, x_cmp_ge, x_cmp_le, x_cmp_gt, x_cmp_lt, x_cmp_eq, not_true_eq_false, not_false_eq_true, true_and, and_true, Int.add_zero, Int.zero_add, Int.cast_ofNat_Int, Int.sub_zero] <;> omega) | (simp (disch := omega) only [w32_id, w64_id, x_up_p, x_up_s, x_up_o, x_fill_p, x_fill_i, x_fill_o, x_cpy_p, x_cpy_i, x_cpy_o, x_upR_p, x_upR_s, x_upR_o, x_zM_p, x_zR_p, x_set_p, x_set_s, tb_CM, tb_SM, xm_cats, xm_cat, List.length_cons, List.length_nil, x_cmp_ge, x_cmp_le, x_cmp_gt, x_cmp_lt, x_cmp_eq, not_true_eq_false, not_false_eq_true, true_and, and_true, Int.add_zero, Int.zero_add, Int.cast_ofNat_Int, Int.sub_zero]; done) | fail) ?_; (conv => whnf)) | (refine And.intro (by first | omega | (simp (disch := omega) only [w32_id, w64_id, x_up_p, x_up_s, x_up_o, x_fill_p, x_fill_i, x_fill_o, x_cpy_p, x_cpy_i, x_cpy_o, x_upR_p, x_upR_s, x_upR_o, x_zM_p, x_zR_p, x_set_p, x_set_s, tb_CM, tb_SM, xm_cats, xm_cat, List.length_cons, List.length_nil, x_cmp_ge, x_cmp_le, x_cmp_gt, x_cmp_lt, x_cmp_eq, not_true_eq_false, not_false_eq_true, true_and, and_true, Int.add_zero, Int.zero_add, Int.cast_ofNat_Int, Int.sub_zero] <;> omega) | (simp (disch := omega) only [w32_id, w64_id, x_up_p, x_up_s, x_up_o, x_fill_p, x_fill_i, x_fill_o, x_cpy_p, x_cpy_i, x_cpy_o, x_upR_p, x_upR_s, x_upR_o, x_zM_p, x_zR_p, x_set_p, x_set_s, tb_CM, tb_SM, xm_cats, xm_cat, List.length_cons, List.length_nil, x_cmp_ge, x_cmp_le, x_cmp_gt, x_cmp_lt, x_cmp_eq, not_true_eq_false, not_false_eq_true, true_and, and_true, Int.add_zero, Int.zero_add, Int.cast_ofNat_Int, Int.sub_zero]; done) | fail) ?_; (conv => whnf)))
    exact hQ
end

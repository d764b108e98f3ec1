/-! THE REFERENCE'S FRAMES: a part begins: words that go before a part, and ( -/
/-- a frame writes into itself -/
def qJ (k : Int) (M M' : Nat → Int → Int) : Prop := (∀ x, x ≠ 81 → (x < 119 ∨ 127 < x) → M' x = M x) ∧ (∀ j, j ≠ 6 → M' 81 j = M 81 j) ∧ (∀ x i, 119 ≤ x → x ≤ 126 → i ≠ k → M' x i = M x i) ∧ ∀ i, i < 5 * k → M' 127 i = M 127 i
theorem qGn_J {k : Int} {M M' : Nat → Int → Int} (h : qJ k M M') : qGn M M' := by
  obtain ⟨h1, h2, h3, h4⟩ := h
  have f : ∀ j, j ≠ 6 → M 81 j ≤ M' 81 j := fun j a => by rw [h2 j a]; exact Int.le_refl _
  exact ⟨fun x p q => h1 x p (by omega), fun j q1 q2 q3 q4 q5 q6 q7 q8 q9 q10 q11 => h2 j q1, ⟨f 21 (by decide), fun x i p q r => by rw [h1 x (by omega) (by omega)]⟩, ⟨f 30 (by decide), fun x i p q _ => by rw [h1 x (by omega) (by omega)]⟩, ⟨f 34 (by decide), fun x i p q _ => by rw [h1 x (by omega) (by omega)]⟩, ⟨f 38 (by decide), fun x i p q _ => by rw [h1 x (by omega) (by omega)]⟩, ⟨f 42 (by decide), fun x i p q _ => by rw [h1 x (by omega) (by omega)]⟩, f 48 (by decide), fun i _ => by rw [h1 118 (by decide) (by decide)]⟩
theorem qFr_J {k : Int} {M M' : Nat → Int → Int} (h : qJ k M M') : qFr k M M' := ⟨fun x i p q r => h.2.2.1 x i p q (by omega), h.2.2.2⟩
section
variable {ρ : Nat → Option xk} {e sl d : Nat} {M : Nat → Int → Int} {R : Nat → Int → Option Nat} {eX : Nat → Nat × (Nat → Int32)} {Q : xK}
variable {tk : Int → t_t} {c p : Int}
set_option linter.unusedSimpArgs false in
set_option maxRecDepth 100000 in
set_option maxHeartbeats 4000000 in
theorem q_46 (hE : ∀ j, (eX j).1 ≤ 1000000) (hT : qT tk c M p) {k w dp : Int} (hk : M 81 51 = k) (h0 : 0 ≤ k ∧ k < 100) (hQ : ∀ M', (dp ≤ 12 → qEo k w dp (tk p).2.1 M M') → (12 < dp → qW (tk p).2.1 M M') → Q (.inl none) (ρ, e, M', R, sl)) : xm_call tb_P eX tb_K0 174 (d + 2) 46 [.inr (.inr (some 82)), .inl w, .inl dp] (ρ, e, M, R, sl) Q := by
  by_cases hd : dp ≤ 12
  · exact q_46y (d := d + 1) hE hT hk h0 hd (fun M' g => hQ M' (fun _ => g) (fun h => absurd hd (by omega)))
  · exact q_46n hE hT (by omega) (fun M' g => hQ M' (fun h => absurd h hd) (fun _ => g))
/-- what a frame leaves behind before it enters another -/
theorem qJ_c {k s v : Int} (hT : qT tk c M p) (hp1 : p < c) : ∀ N : Nat → Int → Int, N = x_up (x_up (x_up M 123 k v) 81 6 (p + 1)) 120 k s → qT tk c N (p + 1) ∧ qJ k M N ∧ N 120 k = s ∧ N 123 k = v ∧ N 119 = M 119 ∧ N 121 = M 121 ∧ N 126 = M 126 ∧ N 81 51 = M 81 51 := by
  rintro N rfl
  have hp := qT_p hT
  refine ⟨qT_up hT (by omega) ?_ ?_ (fun x hx => ?_), ⟨fun x a b => ?_, fun j a => ?_, fun x i a b q => ?_, fun i a => ?_⟩, ?_, ?_, ?_, ?_, ?_, ?_⟩
  · rw [x_up_p (by decide), x_up_s rfl]
  · rw [x_up_p (by decide), x_up_o (by decide), x_up_p (by decide)]; exact hT.2.2.2
  · rw [x_up_ne (by omega), x_up_ne (by omega), x_up_ne (by omega)]
  · rw [x_up_ne (by omega), x_up_ne (by omega), x_up_ne (by omega)]
  · rw [x_up_p (by decide), x_up_o a, x_up_p (by decide)]
  · by_cases h1 : x = 120
    · subst h1
      rw [x_up_o q, x_up_p (by decide), x_up_p (by decide)]
    · rw [x_up_p h1, x_up_p (by omega)]
      by_cases h2 : x = 123
      · subst h2
        rw [x_up_o q]
      · rw [x_up_p h2]
  · rw [x_up_p (by decide), x_up_p (by decide), x_up_p (by decide)]
  · rw [x_up_s rfl]
  · rw [x_up_p (by decide), x_up_p (by decide), x_up_s rfl]
  · rw [x_up_ne (by decide), x_up_ne (by decide), x_up_ne (by decide)]
  · rw [x_up_ne (by decide), x_up_ne (by decide), x_up_ne (by decide)]
  · rw [x_up_ne (by decide), x_up_ne (by decide), x_up_ne (by decide)]
  · rw [x_up_p (by decide), x_up_o (by decide), x_up_p (by decide)]
theorem qJ_p {k s : Int} (hT : qT tk c M p) (hp1 : p < c) : ∀ N : Nat → Int → Int, N = x_up (x_up M 81 6 (p + 1)) 120 k s → qT tk c N (p + 1) ∧ qJ k M N ∧ N 120 k = s ∧ N 123 = M 123 ∧ N 119 = M 119 ∧ N 121 = M 121 ∧ N 126 = M 126 ∧ N 81 51 = M 81 51 := by
  rintro N rfl
  have hp := qT_p hT
  refine ⟨qT_up hT (by omega) ?_ ?_ (fun x hx => ?_), ⟨fun x a b => ?_, fun j a => ?_, fun x i a b q => ?_, fun i a => ?_⟩, ?_, ?_, ?_, ?_, ?_, ?_⟩
  · rw [x_up_p (by decide), x_up_s rfl]
  · rw [x_up_p (by decide), x_up_o (by decide)]; exact hT.2.2.2
  · rw [x_up_ne (by omega), x_up_ne (by omega)]
  · rw [x_up_ne (by omega), x_up_ne (by omega)]
  · rw [x_up_p (by decide), x_up_o a]
  · by_cases h1 : x = 120
    · subst h1
      rw [x_up_o q, x_up_p (by decide)]
    · rw [x_up_p h1, x_up_p (by omega)]
  · rw [x_up_p (by decide), x_up_p (by decide)]
  · rw [x_up_s rfl]
  · rw [x_up_ne (by decide), x_up_ne (by decide)]
  · rw [x_up_ne (by decide), x_up_ne (by decide)]
  · rw [x_up_ne (by decide), x_up_ne (by decide)]
  · rw [x_up_ne (by decide), x_up_ne (by decide)]
  · rw [x_up_p (by decide), x_up_o (by decide)]
-- (
set_option linter.unusedSimpArgs false in
set_option maxRecDepth 100000 in
set_option maxHeartbeats 4000000 in
theorem q_54d (hE : ∀ j, (eX j).1 ≤ 1000000) (hS : t_S tk c) (hT : qT tk c M p) {k dp : Int} (hk : M 81 51 = k + 1) (hk0 : 0 ≤ k ∧ k < 90) (hdp : M 121 k = dp) (hd0 : 0 ≤ dp ∧ dp ≤ 100) (ht : z_M (tk p) 40) (hQ : ∀ N, N = x_up (x_up M 81 6 (p + 1)) 120 k 2 → ∀ M', (dp + 1 ≤ 12 → qEo (k + 1) 0 (dp + 1) (tk (p + 1)).2.1 N M') → (12 < dp + 1 → qW (tk (p + 1)).2.1 N M') → Q (.inl none) (ρ, e, M', R, sl)) : xm_call tb_P eX tb_K0 174 (d + 3) 54 [.inr (.inr (some 82)), .inl k] (ρ, e, M, R, sl) Q := by
  have hp := qT_p hT
  have htt := qT_t hT
  obtain ⟨y1, y2⟩ := (z_mk (hS.2.2.1 p hp.1 hp.2.1) (m := 40) (by omega)).mpr ht
  have hlt : p < c := qT_lt hS hT (by rw [ht.1]; decide)
  obtain ⟨j1, j2, j3, j4, j5, j6, j7, j8⟩ := qJ_p (k := k) (s := 2) hT hlt _ rfl
  refine xm_run hE (fun _ _ => none) (fun k => Nat.beq k 28 || Nat.beq k 33) (fun F C hF hC => ?_)
  (conv => whnf)
  repeat (first | (refine br_t (by first | omega | (simp (disch := omega) only [w32_id, w64_id, x_up_p, x_up_s, x_up_o, x_fill_p, x_fill_i, x_fill_o, x_cpy_p, x_cpy_i, x_cpy_o, x_upR_p, x_upR_s, x_upR_o, x_zM_p, x_zR_p, x_set_p, x_set_s, tb_CM, tb_SM, xm_cats, xm_cat, List.length_cons, List.length_nil, x_cmp_ge, x_cmp_le, x_cmp_gt, x_cmp_lt, x_cmp_eq, not_true_eq_false, not_false_eq_true, true_and, and_true, Int.add_zero, Int.zero_add, Int.cast_ofNat_Int, Int.sub_zero, qT_t hT, qT_k hT, qT_v hT, qT_a hT, qT_w hT, hdp, y1, y2] <;> omega) | (simp (disch := omega) only [w32_id, w64_id, x_up_p, x_up_s, x_up_o, x_fill_p, x_fill_i, x_fill_o, x_cpy_p, x_cpy_i, x_cpy_o, x_upR_p, x_upR_s, x_upR_o, x_zM_p, x_zR_p, x_set_p, x_set_s, tb_CM, tb_SM, xm_cats, xm_cat, List.length_cons, List.length_nil, x_cmp_ge, x_cmp_le, x_cmp_gt, x_cmp_lt, x_cmp_eq, not_true_eq_false, not_false_eq_true, true_and, and_true, Int.add_zero, Int.zero_add, Int.cast_ofNat_Int, Int.sub_zero, qT_t hT, qT_k hT, qT_v hT, qT_a hT, qT_w hT, hdp, y1, y2]; done) | fail) ?_; (conv => whnf)) | (refine br_f (by first | omega | (simp (disch := omega) only [w32_id, w64_id, x_up_p, x_up_s, x_up_o, x_fill_p, x_fill_i, x_fill_o, x_cpy_p, x_cpy_i, x_cpy_o, x_upR_p, x_upR_s, x_upR_o, x_zM_p, x_zR_p, x_set_p, x_set_s, tb_CM, tb_SM, xm_cats, xm_cat, List.length_cons, List.length_nil, x_cmp_ge, x_cmp_le, x_cmp_gt, x_cmp_lt, x_cmp_eq, not_true_eq_false, not_false_eq_true, true_and, and_true, Int.add_zero, Int.zero_add, Int.cast_ofNat_Int, Int.sub_zero, qT_t hT, qT_k hT, qT_v hT, qT_a hT, qT_w hT, hdp, y1, y2] <;> omega) | (simp (disch := omega) only [w32_id, w64_id, x_up_p, x_up_s, x_up_o, x_fill_p, x_fill_i, x_fill_o, x_cpy_p, x_cpy_i, x_cpy_o, x_upR_p, x_upR_s, x_upR_o, x_zM_p, x_zR_p, x_set_p, x_set_s, tb_CM, tb_SM, xm_cats, xm_cat, List.length_cons, List.length_nil, x_cmp_ge, x_cmp_le, x_cmp_gt, x_cmp_lt, x_cmp_eq, not_true_eq_false, not_false_eq_true, true_and, and_true, Int.add_zero, Int.zero_add, Int.cast_ofNat_Int, Int.sub_zero, qT_t hT, qT_k hT, qT_v hT, qT_a hT, qT_w hT, hdp, y1, y2]; done) | fail) ?_; (conv => whnf)) | (refine sw_in (by first | omega | (simp (disch := omega) only [w32_id, w64_id, x_up_p, x_up_s, x_up_o, x_fill_p, x_fill_i, x_fill_o, x_cpy_p, x_cpy_i, x_cpy_o, x_upR_p, x_upR_s, x_upR_o, x_zM_p, x_zR_p, x_set_p, x_set_s, tb_CM, tb_SM, xm_cats, xm_cat, List.length_cons, List.length_nil, x_cmp_ge, x_cmp_le, x_cmp_gt, x_cmp_lt, x_cmp_eq, not_true_eq_false, not_false_eq_true, true_and, and_true, Int.add_zero, Int.zero_add, Int.cast_ofNat_Int, Int.sub_zero, qT_t hT, qT_k hT, qT_v hT, qT_a hT, qT_w hT, hdp, y1, y2] <;> omega) | (simp (disch := omega) only [w32_id, w64_id, x_up_p, x_up_s, x_up_o, x_fill_p, x_fill_i, x_fill_o, x_cpy_p, x_cpy_i, x_cpy_o, x_upR_p, x_upR_s, x_upR_o, x_zM_p, x_zR_p, x_set_p, x_set_s, tb_CM, tb_SM, xm_cats, xm_cat, List.length_cons, List.length_nil, x_cmp_ge, x_cmp_le, x_cmp_gt, x_cmp_lt, x_cmp_eq, not_true_eq_false, not_false_eq_true, true_and, and_true, Int.add_zero, Int.zero_add, Int.cast_ofNat_Int, Int.sub_zero, qT_t hT, qT_k hT, qT_v hT, qT_a hT, qT_w hT, hdp, y1, y2]; done) | fail) ?_; (conv => whnf)) | (refine sw_hit (by first | omega | (simp (disch := omega) only [w32_id, w64_id, x_up_p, x_up_s, x_up_o, x_fill_p, x_fill_i, x_fill_o, x_cpy_p, x_cpy_i, x_cpy_o, x_upR_p, x_upR_s, x_upR_o, x_zM_p, x_zR_p, x_set_p, x_set_s, tb_CM, tb_SM, xm_cats, xm_cat, List.length_cons, List.length_nil, x_cmp_ge, x_cmp_le, x_cmp_gt, x_cmp_lt, x_cmp_eq, not_true_eq_false, not_false_eq_true, true_and, and_true, Int.add_zero, Int.zero_add, Int.cast_ofNat_Int, Int.sub_zero, qT_t hT, qT_k hT, qT_v hT, qT_a hT, qT_w hT, hdp, y1, y2] <;> omega) | (simp (disch := omega) only [w32_id, w64_id, x_up_p, x_up_s, x_up_o, x_fill_p, x_fill_i, x_fill_o, x_cpy_p, x_cpy_i, x_cpy_o, x_upR_p, x_upR_s, x_upR_o, x_zM_p, x_zR_p, x_set_p, x_set_s, tb_CM, tb_SM, xm_cats, xm_cat, List.length_cons, List.length_nil, x_cmp_ge, x_cmp_le, x_cmp_gt, x_cmp_lt, x_cmp_eq, not_true_eq_false, not_false_eq_true, true_and, and_true, Int.add_zero, Int.zero_add, Int.cast_ofNat_Int, Int.sub_zero, qT_t hT, qT_k hT, qT_v hT, qT_a hT, qT_w hT, hdp, y1, y2]; done) | fail) ?_ (sw_vac (by first | omega | (simp (disch := omega) only [w32_id, w64_id, x_up_p, x_up_s, x_up_o, x_fill_p, x_fill_i, x_fill_o, x_cpy_p, x_cpy_i, x_cpy_o, x_upR_p, x_upR_s, x_upR_o, x_zM_p, x_zR_p, x_set_p, x_set_s, tb_CM, tb_SM, xm_cats, xm_cat, List.length_cons, List.length_nil, x_cmp_ge, x_cmp_le, x_cmp_gt, x_cmp_lt, x_cmp_eq, not_true_eq_false, not_false_eq_true, true_and, and_true, Int.add_zero, Int.zero_add, Int.cast_ofNat_Int, Int.sub_zero, qT_t hT, qT_k hT, qT_v hT, qT_a hT, qT_w hT, hdp, y1, y2] <;> omega) | (simp (disch := omega) only [w32_id, w64_id, x_up_p, x_up_s, x_up_o, x_fill_p, x_fill_i, x_fill_o, x_cpy_p, x_cpy_i, x_cpy_o, x_upR_p, x_upR_s, x_upR_o, x_zM_p, x_zR_p, x_set_p, x_set_s, tb_CM, tb_SM, xm_cats, xm_cat, List.length_cons, List.length_nil, x_cmp_ge, x_cmp_le, x_cmp_gt, x_cmp_lt, x_cmp_eq, not_true_eq_false, not_false_eq_true, true_and, and_true, Int.add_zero, Int.zero_add, Int.cast_ofNat_Int, Int.sub_zero, qT_t hT, qT_k hT, qT_v hT, qT_a hT, qT_w hT, hdp, y1, y2]; done) | fail)); (conv => whnf)) | (refine sw_next (by first | omega | (simp (disch := omega) only [w32_id, w64_id, x_up_p, x_up_s, x_up_o, x_fill_p, x_fill_i, x_fill_o, x_cpy_p, x_cpy_i, x_cpy_o, x_upR_p, x_upR_s, x_upR_o, x_zM_p, x_zR_p, x_set_p, x_set_s, tb_CM, tb_SM, xm_cats, xm_cat, List.length_cons, List.length_nil, x_cmp_ge, x_cmp_le, x_cmp_gt, x_cmp_lt, x_cmp_eq, not_true_eq_false, not_false_eq_true, true_and, and_true, Int.add_zero, Int.zero_add, Int.cast_ofNat_Int, Int.sub_zero, qT_t hT, qT_k hT, qT_v hT, qT_a hT, qT_w hT, hdp, y1, y2] <;> omega) | (simp (disch := omega) only [w32_id, w64_id, x_up_p, x_up_s, x_up_o, x_fill_p, x_fill_i, x_fill_o, x_cpy_p, x_cpy_i, x_cpy_o, x_upR_p, x_upR_s, x_upR_o, x_zM_p, x_zR_p, x_set_p, x_set_s, tb_CM, tb_SM, xm_cats, xm_cat, List.length_cons, List.length_nil, x_cmp_ge, x_cmp_le, x_cmp_gt, x_cmp_lt, x_cmp_eq, not_true_eq_false, not_false_eq_true, true_and, and_true, Int.add_zero, Int.zero_add, Int.cast_ofNat_Int, Int.sub_zero, qT_t hT, qT_k hT, qT_v hT, qT_a hT, qT_w hT, hdp, y1, y2]; done) | fail) ?_; (conv => whnf)) | (refine sw_def (by first | omega | (simp (disch := omega) only [w32_id, w64_id, x_up_p, x_up_s, x_up_o, x_fill_p, x_fill_i, x_fill_o, x_cpy_p, x_cpy_i, x_cpy_o, x_upR_p, x_upR_s, x_upR_o, x_zM_p, x_zR_p, x_set_p, x_set_s, tb_CM, tb_SM, xm_cats, xm_cat, List.length_cons, List.length_nil, x_cmp_ge, x_cmp_le, x_cmp_gt, x_cmp_lt, x_cmp_eq, not_true_eq_false, not_false_eq_true, true_and, and_true, Int.add_zero, Int.zero_add, Int.cast_ofNat_Int, Int.sub_zero, qT_t hT, qT_k hT, qT_v hT, qT_a hT, qT_w hT, hdp, y1, y2] <;> omega) | (simp (disch := omega) only [w32_id, w64_id, x_up_p, x_up_s, x_up_o, x_fill_p, x_fill_i, x_fill_o, x_cpy_p, x_cpy_i, x_cpy_o, x_upR_p, x_upR_s, x_upR_o, x_zM_p, x_zR_p, x_set_p, x_set_s, tb_CM, tb_SM, xm_cats, xm_cat, List.length_cons, List.length_nil, x_cmp_ge, x_cmp_le, x_cmp_gt, x_cmp_lt, x_cmp_eq, not_true_eq_false, not_false_eq_true, true_and, and_true, Int.add_zero, Int.zero_add, Int.cast_ofNat_Int, Int.sub_zero, qT_t hT, qT_k hT, qT_v hT, qT_a hT, qT_w hT, hdp, y1, y2]; done) | fail) ?_; (conv => whnf)) | (refine And.intro (by first | omega | (simp (disch := omega) only [w32_id, w64_id, x_up_p, x_up_s, x_up_o, x_fill_p, x_fill_i, x_fill_o, x_cpy_p, x_cpy_i, x_cpy_o, x_upR_p, x_upR_s, x_upR_o, x_zM_p, x_zR_p, x_set_p, x_set_s, tb_CM, tb_SM, xm_cats, xm_cat, List.length_cons, List.length_nil, x_cmp_ge, x_cmp_le, x_cmp_gt, x_cmp_lt, x_cmp_eq, not_true_eq_false, not_false_eq_true, true_and, and_true, Int.add_zero, Int.zero_add, Int.cast_ofNat_Int, Int.sub_zero, qT_t hT, qT_k hT, qT_v hT, qT_a hT, qT_w hT, hdp, y1, y2] <;> omega) | (simp (disch := omega) only [w32_id, w64_id, x_up_p, x_up_s, x_up_o, x_fill_p, x_fill_i, x_fill_o, x_cpy_p, x_cpy_i, x_cpy_o, x_upR_p, x_upR_s, x_upR_o, x_zM_p, x_zR_p, x_set_p, x_set_s, tb_CM, tb_SM, xm_cats, xm_cat, List.length_cons, List.length_nil, x_cmp_ge, x_cmp_le, x_cmp_gt, x_cmp_lt, x_cmp_eq, not_true_eq_false, not_false_eq_true, true_and, and_true, Int.add_zero, Int.zero_add, Int.cast_ofNat_Int, Int.sub_zero, qT_t hT, qT_k hT, qT_v hT, qT_a hT, qT_w hT, hdp, y1, y2]; done) | fail) ?_; (conv => whnf)))
  refine hC _ _ _ _ _ (xm_castc (q_46 (ρ := ρ) (e := e) (R := R) (sl := sl) (w := 0) (dp := dp + 1) hE j1 (j8.trans hk) (by omega) (fun M' g1 g2 => ?_)) (by simp (disch := omega) only [w32_id, w64_id, x_up_p, x_up_s, x_up_o, x_fill_p, x_fill_i, x_fill_o, x_cpy_p, x_cpy_i, x_cpy_o, x_upR_p, x_upR_s, x_upR_o, x_zM_p, x_zR_p, x_set_p, x_set_s, tb_CM, tb_SM, xm_cats, xm_cat, List.length_cons, List.length_nil, x_cmp_ge, x_cmp_le, x_cmp_gt, x_cmp_lt, x_cmp_eq, not_true_eq_false, not_false_eq_true, true_and, and_true, Int.add_zero, Int.zero_add, Int.cast_ofNat_Int, Int.sub_zero, hdp]) (by simp (disch := omega) only [w32_id, w64_id, x_up_p, x_up_s, x_up_o, x_fill_p, x_fill_i, x_fill_o, x_cpy_p, x_cpy_i, x_cpy_o, x_upR_p, x_upR_s, x_upR_o, x_zM_p, x_zR_p, x_set_p, x_set_s, tb_CM, tb_SM, xm_cats, xm_cat, List.length_cons, List.length_nil, x_cmp_ge, x_cmp_le, x_cmp_gt, x_cmp_lt, x_cmp_eq, not_true_eq_false, not_false_eq_true, true_and, and_true, Int.add_zero, Int.zero_add, Int.cast_ofNat_Int, Int.sub_zero, htt]))
  have hq := hQ _ rfl M' g1 g2
  (conv => whnf)
  exact hq
end

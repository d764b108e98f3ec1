/-! DEFINE: room, and the tree that it reads into -/
section
variable {e : Nat} {R R' : Nat → Int → Option Nat}
theorem x_pS_c (h : x_wR e R) (h34 : ∀ j, R' 34 j = R 34 j) (hd : ∀ x i, 174 ≤ x → x < e + 174 → R' x i = R x i) : ∀ n : Nat, n ≤ 20 → x_pS R' n = x_pS R n := by
  intro n
  induction n with
  | zero => intro _; rfl
  | succ n ih =>
    intro hn
    unfold x_pS
    rw [ih (by omega), h34]
    congr 1
    unfold x_ps
    split
    · rfl
    · rename_i p hp
      obtain ⟨a, b, c⟩ := x_wR_1 h (by omega) (by omega) hp
      rw [hd (p - 1) 4 (by omega) (by omega)]
      split
      · rfl
      · rename_i g hg
        obtain ⟨a2, b2⟩ := c g hg
        have : R' (g - 1) = R (g - 1) := funext fun i => hd _ i (by omega) (by omega)
        rw [this]
theorem x_wR_c {e' : Nat} (h : x_wR e R) (h34 : ∀ j, R' 34 j = R 34 j) (hd : ∀ x i, 174 ≤ x → x < e + 174 → R' x i = R x i) (he : e ≤ e') : x_wR e' R' := by
  refine x_wR_2 (fun j p j0 j1 hp => ?_)
  rw [h34] at hp
  obtain ⟨a, b, c⟩ := x_wR_1 h j0 j1 hp
  refine ⟨a, by omega, fun g hg => ?_⟩
  rw [hd (p - 1) 4 (by omega) (by omega)] at hg
  obtain ⟨a2, b2⟩ := c g hg
  exact ⟨a2, by omega⟩
theorem x_cnt_up {f f' : Int → Option Nat} {n : Int} {p : Nat} (hn : f n = none) (hn' : f' n = some p) (ho : ∀ j, j ≠ n → f' j = f j) : ∀ N : Nat, (n < N → 0 ≤ n → x_cnt f' N = x_cnt f N + 1) ∧ (N ≤ n → x_cnt f' N = x_cnt f N)
  | 0 => ⟨fun h h0 => absurd h (by omega), fun _ => rfl⟩
  | N + 1 => by
    have ih := x_cnt_up hn hn' ho N
    unfold x_cnt
    by_cases hN : (N : Int) = n
    · refine ⟨fun _ _ => ?_, fun h => absurd h (by omega)⟩
      rw [hN, hn, hn', ih.2 (by omega)]
      show x_cnt f N + 1 = x_cnt f N + 0 + 1
      omega
    · rw [ho _ hN]
      refine ⟨fun h h0 => ?_, fun h => ?_⟩
      · rw [ih.1 (by omega) h0]; omega
      · rw [ih.2 (by omega)]
variable {ρ ρ' : Nat → Option xk} {e' sl sl' : Nat} {M M' : Nat → Int → Int} {t t' n : Int}
theorem rm_c (h : rm t (ρ, e, M, R, sl)) (h7 : ∀ x i, x = 7 ∨ x = 33 ∨ x = 34 ∨ x = 38 → R' x i = R x i) (hd : ∀ x i, 174 ≤ x → x < e + 174 → R' x i = R x i) (he : e ≤ e') (ht : (e' : Int) + t' ≤ e + t) (hs : sl' + 4500 * e ≤ sl + 4500 * e') : rm t' (ρ', e', M', R', sl') := by
  obtain ⟨h1, h2, h3⟩ := h
  dsimp only at h1 h2 h3
  have e7 : R' 7 = R 7 := funext fun i => h7 7 i (by omega)
  have e33 : R' 33 = R 33 := funext fun i => h7 33 i (by omega)
  have e38 : R' 38 = R 38 := funext fun i => h7 38 i (by omega)
  have hp : x_po R' = x_po R := by
    unfold x_po
    rw [e7, e33, e38, x_pS_c h3 (fun j => h7 34 j (by omega)) hd 20 (by omega)]
  refine ⟨?_, ?_, x_wR_c h3 (fun j => h7 34 j (by omega)) hd he⟩
  · dsimp only
    rw [hp]
    omega
  · dsimp only
    omega
theorem rm_t {p : Nat} (h : rm t (ρ, e, M, R, sl)) (hn : 0 ≤ n ∧ n ≤ 8) (h0 : R 7 n = none) (h1 : R' 7 n = some p) (hd : ∀ x i, x < e + 174 → (x ≠ 7 ∨ i ≠ n) → R' x i = R x i) : rm t (ρ', e + 2, M', R', sl + 4511) := by
  obtain ⟨r1, r2, r3⟩ := h
  dsimp only at r1 r2 r3
  have e33 : R' 33 = R 33 := funext fun i => hd 33 i (by omega) (by omega)
  have e38 : R' 38 = R 38 := funext fun i => hd 38 i (by omega) (by omega)
  have h34 : ∀ j, R' 34 j = R 34 j := fun j => hd 34 j (by omega) (by omega)
  have hd' : ∀ x i, 174 ≤ x → x < e + 174 → R' x i = R x i := fun x i a b => hd x i b (by omega)
  have h7 := (x_cnt_up h0 h1 (fun j hj => hd 7 j (by omega) (.inr hj)) 9).1 (by omega) hn.1
  have hp : x_po R' = x_po R - 2 := by
    unfold x_po
    rw [h7, e33, e38, x_pS_c r3 h34 hd' 20 (by omega)]
    omega
  refine ⟨?_, ?_, x_wR_c (e' := e + 2) r3 h34 hd' (by omega)⟩
  · dsimp only
    rw [hp]
    omega
  · dsimp only
    omega
end
section
variable {ρ : Nat → Option xk} {e sl d : Nat} {M : Nat → Int → Int} {R : Nat → Int → Option Nat} {eX : Nat → Nat × (Nat → Int32)} {Q : xK}
variable {q : Nat}
set_option linter.unusedSimpArgs false in
set_option maxRecDepth 100000 in
set_option maxHeartbeats 4000000 in
theorem r_160c (hE : ∀ j, (eX j).1 ≤ 1000000) {n : Int} (hn8 : 0 ≤ n ∧ n ≤ 8) (hR : R 7 n = none) (hr : e + 176 ≤ 601024 ∧ sl + 4511 ≤ 7293034) (hq : Q (.inl (some (.inr (.inr (some (e + 175)))))) (x_new (x_new ρ e (.inr (10, c_TF))) (e + 1) (.inl (0, 4500)), e + 2, x_up (x_zM (x_zM M (e + 174)) (e + 1 + 174)) (e + 174) 1 1, x_upR (x_upR (x_zR (x_zR R (e + 174)) (e + 1 + 174)) (e + 174) 0 (some (e + 1 + 175))) 7 n (some (e + 175)), sl + 4511)) : xm_call tb_P eX tb_K0 174 (d + 3) 160 [.inr (.inr (some 1)), .inl n] (ρ, e, M, R, sl) Q := by
  have v10 : tb_V10.length = 11 := rfl
  have h1 : x_new ρ e (.inr (10, xm_lay tb_V10 0)) e = some (.inr (10, xm_lay tb_V10 0)) := by unfold x_new; rw [if_pos rfl]
  have h2 : x_new (x_new ρ e (.inr (10, xm_lay tb_V10 0))) (e + 1) (.inl (0, 4500)) e = some (.inr (10, xm_lay tb_V10 0)) := by unfold x_new; rw [if_neg (by omega), if_pos rfl]
  refine xm_run hE (fun _ _ => none) (fun _ => true) (fun Ff C hF hC => ?_)
  have hc3 : n = 0 ∨ (0 < n ∧ n < 8) ∨ n = 8 := by omega
  rcases hc3 with h0 | h0 | h0
  · subst h0
    (conv => whnf)
    repeat (first | (refine x_go (x_rc rfl (tb_dyn h1) rfl) ?_; (conv => whnf)) | (refine x_go (x_rc rfl (tb_dyn h2) rfl) ?_; (conv => whnf)) | (rw [hR]; (conv => whnf)) | (rw [tb_dyn h1]; (conv => whnf)) | (rw [tb_dyn h2]; (conv => whnf)) | (refine br_t (by first | omega | (simp (disch := omega) only [w32_id, w64_id, x_up_p, x_up_s, x_up_o, x_fill_p, x_fill_i, x_fill_o, x_cpy_p, x_cpy_i, x_cpy_o, x_upR_p, x_upR_s, x_upR_o, x_zM_p, x_zR_p, x_set_p, x_set_s, tb_CM, tb_SM, xm_cats, xm_cat, List.length_cons, List.length_nil, x_cmp_ge, x_cmp_le, x_cmp_gt, x_cmp_lt, x_cmp_eq, not_true_eq_false, not_false_eq_true, true_and, and_true, Int.add_zero, Int.zero_add, Int.cast_ofNat_Int, Int.sub_zero, v10] <;> omega) | (simp (disch := omega) only [w32_id, w64_id, x_up_p, x_up_s, x_up_o, x_fill_p, x_fill_i, x_fill_o, x_cpy_p, x_cpy_i, x_cpy_o, x_upR_p, x_upR_s, x_upR_o, x_zM_p, x_zR_p, x_set_p, x_set_s, tb_CM, tb_SM, xm_cats, xm_cat, List.length_cons, List.length_nil, x_cmp_ge, x_cmp_le, x_cmp_gt, x_cmp_lt, x_cmp_eq, not_true_eq_false, not_false_eq_true, true_and, and_true, Int.add_zero, Int.zero_add, Int.cast_ofNat_Int, Int.sub_zero, v10]; done) | fail) ?_; (conv => whnf)) | (refine br_f (by first | omega | (simp (disch := omega) only [w32_id, w64_id, x_up_p, x_up_s, x_up_o, x_fill_p, x_fill_i, x_fill_o, x_cpy_p, x_cpy_i, x_cpy_o, x_upR_p, x_upR_s, x_upR_o, x_zM_p, x_zR_p, x_set_p, x_set_s, tb_CM, tb_SM, xm_cats, xm_cat, List.length_cons, List.length_nil, x_cmp_ge, x_cmp_le, x_cmp_gt, x_cmp_lt, x_cmp_eq, not_true_eq_false, not_false_eq_true, true_and, and_true, Int.add_zero, Int.zero_add, Int.cast_ofNat_Int, Int.sub_zero, v10] <;> omega) | (simp (disch := omega) only [w32_id, w64_id, x_up_p, x_up_s, x_up_o, x_fill_p, x_fill_i, x_fill_o, x_cpy_p, x_cpy_i, x_cpy_o, x_upR_p, x_upR_s, x_upR_o, x_zM_p, x_zR_p, x_set_p, x_set_s, tb_CM, tb_SM, xm_cats, xm_cat, List.length_cons, List.length_nil, x_cmp_ge, x_cmp_le, x_cmp_gt, x_cmp_lt, x_cmp_eq, not_true_eq_false, not_false_eq_true, true_and, and_true, Int.add_zero, Int.zero_add, Int.cast_ofNat_Int, Int.sub_zero, v10]; done) | fail) ?_; (conv => whnf)) | (refine sw_in (by first | omega | (simp (disch := omega) only [w32_id, w64_id, x_up_p, x_up_s, x_up_o, x_fill_p, x_fill_i, x_fill_o, x_cpy_p, x_cpy_i, x_cpy_o, x_upR_p, x_upR_s, x_upR_o, x_zM_p, x_zR_p, x_set_p, x_set_s, tb_CM, tb_SM, xm_cats, xm_cat, List.length_cons, List.length_nil, x_cmp_ge, x_cmp_le, x_cmp_gt, x_cmp_lt, x_cmp_eq, not_true_eq_false, not_false_eq_true, true_and, and_true, Int.add_zero, Int.zero_add, Int.cast_ofNat_Int, Int.sub_zero, v10] <;> omega) | (simp (disch := omega) only [w32_id, w64_id, x_up_p, x_up_s, x_up_o, x_fill_p, x_fill_i, x_fill_o, x_cpy_p, x_cpy_i, x_cpy_o, x_upR_p, x_upR_s, x_upR_o, x_zM_p, x_zR_p, x_set_p, x_set_s, tb_CM, tb_SM, xm_cats, xm_cat, List.length_cons, List.length_nil, x_cmp_ge, x_cmp_le, x_cmp_gt, x_cmp_lt, x_cmp_eq, not_true_eq_false, not_false_eq_true, true_and, and_true, Int.add_zero, Int.zero_add, Int.cast_ofNat_Int, Int.sub_zero, v10]; done) | fail) ?_; (conv => whnf)) | (refine sw_hit (by first | omega | (simp (disch := omega) only [w32_id, w64_id, x_up_p, x_up_s, x_up_o, x_fill_p, x_fill_i, x_fill_o, x_cpy_p, x_cpy_i, x_cpy_o, x_upR_p, x_upR_s, x_upR_o, x_zM_p, x_zR_p, x_set_p, x_set_s, tb_CM, tb_SM, xm_cats, xm_cat, List.length_cons, List.length_nil, x_cmp_ge, x_cmp_le, x_cmp_gt, x_cmp_lt, x_cmp_eq, not_true_eq_false, not_false_eq_true, true_and, and_true, Int.add_zero, Int.zero_add, Int.cast_ofNat_Int, Int.sub_zero, v10] <;> omega) | (simp (disch := omega) only [w32_id, w64_id, x_up_p, x_up_s, x_up_o, x_fill_p, x_fill_i, x_fill_o, x_cpy_p, x_cpy_i, x_cpy_o, x_upR_p, x_upR_s, x_upR_o, x_zM_p, x_zR_p, x_set_p, x_set_s, tb_CM, tb_SM, xm_cats, xm_cat, List.length_cons, List.length_nil, x_cmp_ge, x_cmp_le, x_cmp_gt, x_cmp_lt, x_cmp_eq, not_true_eq_false, not_false_eq_true, true_and, and_true, Int.add_zero, Int.zero_add, Int.cast_ofNat_Int, Int.sub_zero, v10]; done) | fail) ?_ (sw_vac (by first | omega | (simp (disch := omega) only [w32_id, w64_id, x_up_p, x_up_s, x_up_o, x_fill_p, x_fill_i, x_fill_o, x_cpy_p, x_cpy_i, x_cpy_o, x_upR_p, x_upR_s, x_upR_o, x_zM_p, x_zR_p, x_set_p, x_set_s, tb_CM, tb_SM, xm_cats, xm_cat, List.length_cons, List.length_nil, x_cmp_ge, x_cmp_le, x_cmp_gt, x_cmp_lt, x_cmp_eq, not_true_eq_false, not_false_eq_true, true_and, and_true, Int.add_zero, Int.zero_add, Int.cast_ofNat_Int, Int.sub_zero, v10] <;> omega) | (simp (disch := omega) only [w32_id, w64_id, x_up_p, x_up_s, x_up_o, x_fill_p, x_fill_i, x_fill_o, x_cpy_p, x_cpy_i, x_cpy_o, x_upR_p, x_upR_s, x_upR_o, x_zM_p, x_zR_p, x_set_p, x_set_s, tb_CM, tb_SM, xm_cats, xm_cat, List.length_cons, List.length_nil, x_cmp_ge, x_cmp_le, x_cmp_gt, x_cmp_lt, x_cmp_eq, not_true_eq_false, not_false_eq_true, true_and, and_true, Int.add_zero, Int.zero_add, Int.cast_ofNat_Int, Int.sub_zero, v10]; done) | fail)); (conv => whnf)) | (refine sw_next (by first | omega | (simp (disch := omega) only [w32_id, w64_id, x_up_p, x_up_s, x_up_o, x_fill_p, x_fill_i, x_fill_o, x_cpy_p, x_cpy_i, x_cpy_o, x_upR_p, x_upR_s, x_upR_o, x_zM_p, x_zR_p, x_set_p, x_set_s, tb_CM, tb_SM, xm_cats, xm_cat, List.length_cons, List.length_nil, x_cmp_ge, x_cmp_le, x_cmp_gt, x_cmp_lt, x_cmp_eq, not_true_eq_false, not_false_eq_true, true_and, and_true, Int.add_zero, Int.zero_add, Int.cast_ofNat_Int, Int.sub_zero, v10] <;> omega) | (simp (disch := omega) only [w32_id, w64_id, x_up_p, x_up_s, x_up_o, x_fill_p, x_fill_i, x_fill_o, x_cpy_p, x_cpy_i, x_cpy_o, x_upR_p, x_upR_s, x_upR_o, x_zM_p, x_zR_p, x_set_p, x_set_s, tb_CM, tb_SM, xm_cats, xm_cat, List.length_cons, List.length_nil, x_cmp_ge, x_cmp_le, x_cmp_gt, x_cmp_lt, x_cmp_eq, not_true_eq_false, not_false_eq_true, true_and, and_true, Int.add_zero, Int.zero_add, Int.cast_ofNat_Int, Int.sub_zero, v10]; done) | fail) ?_; (conv => whnf)) | (refine sw_def (by first | omega | (simp (disch := omega) only [w32_id, w64_id, x_up_p, x_up_s, x_up_o, x_fill_p, x_fill_i, x_fill_o, x_cpy_p, x_cpy_i, x_cpy_o, x_upR_p, x_upR_s, x_upR_o, x_zM_p, x_zR_p, x_set_p, x_set_s, tb_CM, tb_SM, xm_cats, xm_cat, List.length_cons, List.length_nil, x_cmp_ge, x_cmp_le, x_cmp_gt, x_cmp_lt, x_cmp_eq, not_true_eq_false, not_false_eq_true, true_and, and_true, Int.add_zero, Int.zero_add, Int.cast_ofNat_Int, Int.sub_zero, v10] <;> omega) | (simp (disch := omega) only [w32_id, w64_id, x_up_p, x_up_s, x_up_o, x_fill_p, x_fill_i, x_fill_o, x_cpy_p, x_cpy_i, x_cpy_o, x_upR_p, x_upR_s, x_upR_o, x_zM_p, x_zR_p, x_set_p, x_set_s, tb_CM, tb_SM, xm_cats, xm_cat, List.length_cons, List.length_nil, x_cmp_ge, x_cmp_le, x_cmp_gt, x_cmp_lt, x_cmp_eq, not_true_eq_false, not_false_eq_true, true_and, and_true, Int.add_zero, Int.zero_add, Int.cast_ofNat_Int, Int.sub_zero, v10]; done) | fail) ?_; (conv => whnf)) | (refine And.intro (by first | omega | (simp (disch := omega) only [w32_id, w64_id, x_up_p, x_up_s, x_up_o, x_fill_p, x_fill_i, x_fill_o, x_cpy_p, x_cpy_i, x_cpy_o, x_upR_p, x_upR_s, x_upR_o, x_zM_p, x_zR_p, x_set_p, x_set_s, tb_CM, tb_SM, xm_cats, xm_cat, List.length_cons, List.length_nil, x_cmp_ge, x_cmp_le, x_cmp_gt, x_cmp_lt, x_cmp_eq, not_true_eq_false, not_false_eq_true, true_and, and_true, Int.add_zero, Int.zero_add, Int.cast_ofNat_Int, Int.sub_zero, v10] <;> omega) | (simp (disch := omega) only [w32_id, w64_id, x_up_p, x_up_s, x_up_o, x_fill_p, x_fill_i, x_fill_o, x_cpy_p, x_cpy_i, x_cpy_o, x_upR_p, x_upR_s, x_upR_o, x_zM_p, x_zR_p, x_set_p, x_set_s, tb_CM, tb_SM, xm_cats, xm_cat, List.length_cons, List.length_nil, x_cmp_ge, x_cmp_le, x_cmp_gt, x_cmp_lt, x_cmp_eq, not_true_eq_false, not_false_eq_true, true_and, and_true, Int.add_zero, Int.zero_add, Int.cast_ofNat_Int, Int.sub_zero, v10]; done) | fail) ?_; (conv => whnf)))
    exact hq
  · (conv => whnf)
    repeat (first | (refine x_go (x_rc rfl (tb_dyn h1) rfl) ?_; (conv => whnf)) | (refine x_go (x_rc rfl (tb_dyn h2) rfl) ?_; (conv => whnf)) | (rw [hR]; (conv => whnf)) | (rw [tb_dyn h1]; (conv => whnf)) | (rw [tb_dyn h2]; (conv => whnf)) | (refine br_t (by first | omega | (simp (disch := omega) only [w32_id, w64_id, x_up_p, x_up_s, x_up_o, x_fill_p, x_fill_i, x_fill_o, x_cpy_p, x_cpy_i, x_cpy_o, x_upR_p, x_upR_s, x_upR_o, x_zM_p, x_zR_p, x_set_p, x_set_s, tb_CM, tb_SM, xm_cats, xm_cat, List.length_cons, List.length_nil, x_cmp_ge, x_cmp_le, x_cmp_gt, x_cmp_lt, x_cmp_eq, not_true_eq_false, not_false_eq_true, true_and, and_true, Int.add_zero, Int.zero_add, Int.cast_ofNat_Int, Int.sub_zero, v10] <;> omega) | (simp (disch := omega) only [w32_id, w64_id, x_up_p, x_up_s, x_up_o, x_fill_p, x_fill_i, x_fill_o, x_cpy_p, x_cpy_i, x_cpy_o, x_upR_p, x_upR_s, x_upR_o, x_zM_p, x_zR_p, x_set_p, x_set_s, tb_CM, tb_SM, xm_cats, xm_cat, List.length_cons, List.length_nil, x_cmp_ge, x_cmp_le, x_cmp_gt, x_cmp_lt, x_cmp_eq, not_true_eq_false, not_false_eq_true, true_and, and_true, Int.add_zero, Int.zero_add, Int.cast_ofNat_Int, Int.sub_zero, v10]; done) | fail) ?_; (conv => whnf)) | (refine br_f (by first | omega | (simp (disch := omega) only [w32_id, w64_id, x_up_p, x_up_s, x_up_o, x_fill_p, x_fill_i, x_fill_o, x_cpy_p, x_cpy_i, x_cpy_o, x_upR_p, x_upR_s, x_upR_o, x_zM_p, x_zR_p, x_set_p, x_set_s, tb_CM, tb_SM, xm_cats, xm_cat, List.length_cons, List.length_nil, x_cmp_ge, x_cmp_le, x_cmp_gt, x_cmp_lt, x_cmp_eq, not_true_eq_false, not_false_eq_true, true_and, and_true, Int.add_zero, Int.zero_add, Int.cast_ofNat_Int, Int.sub_zero, v10] <;> omega) | (simp (disch := omega) only [w32_id, w64_id, x_up_p, x_up_s, x_up_o, x_fill_p, x_fill_i, x_fill_o, x_cpy_p, x_cpy_i, x_cpy_o, x_upR_p, x_upR_s, x_upR_o, x_zM_p, x_zR_p, x_set_p, x_set_s, tb_CM, tb_SM, xm_cats, xm_cat, List.length_cons, List.length_nil, x_cmp_ge, x_cmp_le, x_cmp_gt, x_cmp_lt, x_cmp_eq, not_true_eq_false, not_false_eq_true, true_and, and_true, Int.add_zero, Int.zero_add, Int.cast_ofNat_Int, Int.sub_zero, v10]; done) | fail) ?_; (conv => whnf)) | (refine sw_in (by first | omega | (simp (disch := omega) only [w32_id, w64_id, x_up_p, x_up_s, x_up_o, x_fill_p, x_fill_i, x_fill_o, x_cpy_p, x_cpy_i, x_cpy_o, x_upR_p, x_upR_s, x_upR_o, x_zM_p, x_zR_p, x_set_p, x_set_s, tb_CM, tb_SM, xm_cats, xm_cat, List.length_cons, List.length_nil, x_cmp_ge, x_cmp_le, x_cmp_gt, x_cmp_lt, x_cmp_eq, not_true_eq_false, not_false_eq_true, true_and, and_true, Int.add_zero, Int.zero_add, Int.cast_ofNat_Int, Int.sub_zero, v10] <;> omega) | (simp (disch := omega) only [w32_id, w64_id, x_up_p, x_up_s, x_up_o, x_fill_p, x_fill_i, x_fill_o, x_cpy_p, x_cpy_i, x_cpy_o, x_upR_p, x_upR_s, x_upR_o, x_zM_p, x_zR_p, x_set_p, x_set_s, tb_CM, tb_SM, xm_cats, xm_cat, List.length_cons, List.length_nil, x_cmp_ge, x_cmp_le, x_cmp_gt, x_cmp_lt, x_cmp_eq, not_true_eq_false, not_false_eq_true, true_and, and_true, Int.add_zero, Int.zero_add, Int.cast_ofNat_Int, Int.sub_zero, v10]; done) | fail) ?_; (conv => whnf)) | (refine sw_hit (by first | omega | (simp (disch := omega) only [w32_id, w64_id, x_up_p, x_up_s, x_up_o, x_fill_p, x_fill_i, x_fill_o, x_cpy_p, x_cpy_i, x_cpy_o, x_upR_p, x_upR_s, x_upR_o, x_zM_p, x_zR_p, x_set_p, x_set_s, tb_CM, tb_SM, xm_cats, xm_cat, List.length_cons, List.length_nil, x_cmp_ge, x_cmp_le, x_cmp_gt, x_cmp_lt, x_cmp_eq, not_true_eq_false, not_false_eq_true, true_and, and_true, Int.add_zero, Int.zero_add, Int.cast_ofNat_Int, Int.sub_zero, v10] <;> omega) | (simp (disch := omega) only [w32_id, w64_id, x_up_p, x_up_s, x_up_o, x_fill_p, x_fill_i, x_fill_o, x_cpy_p, x_cpy_i, x_cpy_o, x_upR_p, x_upR_s, x_upR_o, x_zM_p, x_zR_p, x_set_p, x_set_s, tb_CM, tb_SM, xm_cats, xm_cat, List.length_cons, List.length_nil, x_cmp_ge, x_cmp_le, x_cmp_gt, x_cmp_lt, x_cmp_eq, not_true_eq_false, not_false_eq_true, true_and, and_true, Int.add_zero, Int.zero_add, Int.cast_ofNat_Int, Int.sub_zero, v10]; done) | fail) ?_ (sw_vac (by first | omega | (simp (disch := omega) only [w32_id, w64_id, x_up_p, x_up_s, x_up_o, x_fill_p, x_fill_i, x_fill_o, x_cpy_p, x_cpy_i, x_cpy_o, x_upR_p, x_upR_s, x_upR_o, x_zM_p, x_zR_p, x_set_p, x_set_s, tb_CM, tb_SM, xm_cats, xm_cat, List.length_cons, List.length_nil, x_cmp_ge, x_cmp_le, x_cmp_gt, x_cmp_lt, x_cmp_eq, not_true_eq_false, not_false_eq_true, true_and, and_true, Int.add_zero, Int.zero_add, Int.cast_ofNat_Int, Int.sub_zero, v10] <;> omega) | (simp (disch := omega) only [w32_id, w64_id, x_up_p, x_up_s, x_up_o, x_fill_p, x_fill_i, x_fill_o, x_cpy_p, x_cpy_i, x_cpy_o, x_upR_p, x_upR_s, x_upR_o, x_zM_p, x_zR_p, x_set_p, x_set_s, tb_CM, tb_SM, xm_cats, xm_cat, List.length_cons, List.length_nil, x_cmp_ge, x_cmp_le, x_cmp_gt, x_cmp_lt, x_cmp_eq, not_true_eq_false, not_false_eq_true, true_and, and_true, Int.add_zero, Int.zero_add, Int.cast_ofNat_Int, Int.sub_zero, v10]; done) | fail)); (conv => whnf)) | (refine sw_next (by first | omega | (simp (disch := omega) only [w32_id, w64_id, x_up_p, x_up_s, x_up_o, x_fill_p, x_fill_i, x_fill_o, x_cpy_p, x_cpy_i, x_cpy_o, x_upR_p, x_upR_s, x_upR_o, x_zM_p, x_zR_p, x_set_p, x_set_s, tb_CM, tb_SM, xm_cats, xm_cat, List.length_cons, List.length_nil, x_cmp_ge, x_cmp_le, x_cmp_gt, x_cmp_lt, x_cmp_eq, not_true_eq_false, not_false_eq_true, true_and, and_true, Int.add_zero, Int.zero_add, Int.cast_ofNat_Int, Int.sub_zero, v10] <;> omega) | (simp (disch := omega) only [w32_id, w64_id, x_up_p, x_up_s, x_up_o, x_fill_p, x_fill_i, x_fill_o, x_cpy_p, x_cpy_i, x_cpy_o, x_upR_p, x_upR_s, x_upR_o, x_zM_p, x_zR_p, x_set_p, x_set_s, tb_CM, tb_SM, xm_cats, xm_cat, List.length_cons, List.length_nil, x_cmp_ge, x_cmp_le, x_cmp_gt, x_cmp_lt, x_cmp_eq, not_true_eq_false, not_false_eq_true, true_and, and_true, Int.add_zero, Int.zero_add, Int.cast_ofNat_Int, Int.sub_zero, v10]; done) | fail) ?_; (conv => whnf)) | (refine sw_def (by first | omega | (simp (disch := omega) only [w32_id, w64_id, x_up_p, x_up_s, x_up_o, x_fill_p, x_fill_i, x_fill_o, x_cpy_p, x_cpy_i, x_cpy_o, x_upR_p, x_upR_s, x_upR_o, x_zM_p, x_zR_p, x_set_p, x_set_s, tb_CM, tb_SM, xm_cats, xm_cat, List.length_cons, List.length_nil, x_cmp_ge, x_cmp_le, x_cmp_gt, x_cmp_lt, x_cmp_eq, not_true_eq_false, not_false_eq_true, true_and, and_true, Int.add_zero, Int.zero_add, Int.cast_ofNat_Int, Int.sub_zero, v10] <;> omega) | (simp (disch := omega) only [w32_id, w64_id, x_up_p, x_up_s, x_up_o, x_fill_p, x_fill_i, x_fill_o, x_cpy_p, x_cpy_i, x_cpy_o, x_upR_p, x_upR_s, x_upR_o, x_zM_p, x_zR_p, x_set_p, x_set_s, tb_CM, tb_SM, xm_cats, xm_cat, List.length_cons, List.length_nil, x_cmp_ge, x_cmp_le, x_cmp_gt, x_cmp_lt, x_cmp_eq, not_true_eq_false, not_false_eq_true, true_and, and_true, Int.add_zero, Int.zero_add, Int.cast_ofNat_Int, Int.sub_zero, v10]; done) | fail) ?_; (conv => whnf)) | (refine And.intro (by first | omega | (simp (disch := omega) only [w32_id, w64_id, x_up_p, x_up_s, x_up_o, x_fill_p, x_fill_i, x_fill_o, x_cpy_p, x_cpy_i, x_cpy_o, x_upR_p, x_upR_s, x_upR_o, x_zM_p, x_zR_p, x_set_p, x_set_s, tb_CM, tb_SM, xm_cats, xm_cat, List.length_cons, List.length_nil, x_cmp_ge, x_cmp_le, x_cmp_gt, x_cmp_lt, x_cmp_eq, not_true_eq_false, not_false_eq_true, true_and, and_true, Int.add_zero, Int.zero_add, Int.cast_ofNat_Int, Int.sub_zero, v10] <;> omega) | (simp (disch := omega) only [w32_id, w64_id, x_up_p, x_up_s, x_up_o, x_fill_p, x_fill_i, x_fill_o, x_cpy_p, x_cpy_i, x_cpy_o, x_upR_p, x_upR_s, x_upR_o, x_zM_p, x_zR_p, x_set_p, x_set_s, tb_CM, tb_SM, xm_cats, xm_cat, List.length_cons, List.length_nil, x_cmp_ge, x_cmp_le, x_cmp_gt, x_cmp_lt, x_cmp_eq, not_true_eq_false, not_false_eq_true, true_and, and_true, Int.add_zero, Int.zero_add, Int.cast_ofNat_Int, Int.sub_zero, v10]; done) | fail) ?_; (conv => whnf)))
    rw [x_upR_s rfl]
    exact hq
  · subst h0
    (conv => whnf)
    repeat (first | (refine x_go (x_rc rfl (tb_dyn h1) rfl) ?_; (conv => whnf)) | (refine x_go (x_rc rfl (tb_dyn h2) rfl) ?_; (conv => whnf)) | (rw [hR]; (conv => whnf)) | (rw [tb_dyn h1]; (conv => whnf)) | (rw [tb_dyn h2]; (conv => whnf)) | (refine br_t (by first | omega | (simp (disch := omega) only [w32_id, w64_id, x_up_p, x_up_s, x_up_o, x_fill_p, x_fill_i, x_fill_o, x_cpy_p, x_cpy_i, x_cpy_o, x_upR_p, x_upR_s, x_upR_o, x_zM_p, x_zR_p, x_set_p, x_set_s, tb_CM, tb_SM, xm_cats, xm_cat, List.length_cons, List.length_nil, x_cmp_ge, x_cmp_le, x_cmp_gt, x_cmp_lt, x_cmp_eq, not_true_eq_false, not_false_eq_true, true_and, and_true, Int.add_zero, Int.zero_add, Int.cast_ofNat_Int, Int.sub_zero, v10] <;> omega) | (simp (disch := omega) only [w32_id, w64_id, x_up_p, x_up_s, x_up_o, x_fill_p, x_fill_i, x_fill_o, x_cpy_p, x_cpy_i, x_cpy_o, x_upR_p, x_upR_s, x_upR_o, x_zM_p, x_zR_p, x_set_p, x_set_s, tb_CM, tb_SM, xm_cats, xm_cat, List.length_cons, List.length_nil, x_cmp_ge, x_cmp_le, x_cmp_gt, x_cmp_lt, x_cmp_eq, not_true_eq_false, not_false_eq_true, true_and, and_true, Int.add_zero, Int.zero_add, Int.cast_ofNat_Int, Int.sub_zero, v10]; done) | fail) ?_; (conv => whnf)) | (refine br_f (by first | omega | (simp (disch := omega) only [w32_id, w64_id, x_up_p, x_up_s, x_up_o, x_fill_p, x_fill_i, x_fill_o, x_cpy_p, x_cpy_i, x_cpy_o, x_upR_p, x_upR_s, x_upR_o, x_zM_p, x_zR_p, x_set_p, x_set_s, tb_CM, tb_SM, xm_cats, xm_cat, List.length_cons, List.length_nil, x_cmp_ge, x_cmp_le, x_cmp_gt, x_cmp_lt, x_cmp_eq, not_true_eq_false, not_false_eq_true, true_and, and_true, Int.add_zero, Int.zero_add, Int.cast_ofNat_Int, Int.sub_zero, v10] <;> omega) | (simp (disch := omega) only [w32_id, w64_id, x_up_p, x_up_s, x_up_o, x_fill_p, x_fill_i, x_fill_o, x_cpy_p, x_cpy_i, x_cpy_o, x_upR_p, x_upR_s, x_upR_o, x_zM_p, x_zR_p, x_set_p, x_set_s, tb_CM, tb_SM, xm_cats, xm_cat, List.length_cons, List.length_nil, x_cmp_ge, x_cmp_le, x_cmp_gt, x_cmp_lt, x_cmp_eq, not_true_eq_false, not_false_eq_true, true_and, and_true, Int.add_zero, Int.zero_add, Int.cast_ofNat_Int, Int.sub_zero, v10]; done) | fail) ?_; (conv => whnf)) | (refine sw_in (by first | omega | (simp (disch := omega) only [w32_id, w64_id, x_up_p, x_up_s, x_up_o, x_fill_p, x_fill_i, x_fill_o, x_cpy_p, x_cpy_i, x_cpy_o, x_upR_p, x_upR_s, x_upR_o, x_zM_p, x_zR_p, x_set_p, x_set_s, tb_CM, tb_SM, xm_cats, xm_cat, List.length_cons, List.length_nil, x_cmp_ge, x_cmp_le, x_cmp_gt, x_cmp_lt, x_cmp_eq, not_true_eq_false, not_false_eq_true, true_and, and_true, Int.add_zero, Int.zero_add, Int.cast_ofNat_Int, Int.sub_zero, v10] <;> omega) | (simp (disch := omega) only [w32_id, w64_id, x_up_p, x_up_s, x_up_o, x_fill_p, x_fill_i, x_fill_o, x_cpy_p, x_cpy_i, x_cpy_o, x_upR_p, x_upR_s, x_upR_o, x_zM_p, x_zR_p, x_set_p, x_set_s, tb_CM, tb_SM, xm_cats, xm_cat, List.length_cons, List.length_nil, x_cmp_ge, x_cmp_le, x_cmp_gt, x_cmp_lt, x_cmp_eq, not_true_eq_false, not_false_eq_true, true_and, and_true, Int.add_zero, Int.zero_add, Int.cast_ofNat_Int, Int.sub_zero, v10]; done) | fail) ?_; (conv => whnf)) | (refine sw_hit (by first | omega | (simp (disch := omega) only [w32_id, w64_id, x_up_p, x_up_s, x_up_o, x_fill_p, x_fill_i, x_fill_o, x_cpy_p, x_cpy_i, x_cpy_o, x_upR_p, x_upR_s, x_upR_o, x_zM_p, x_zR_p, x_set_p, x_set_s, tb_CM, tb_SM, xm_cats, xm_cat, List.length_cons, List.length_nil, x_cmp_ge, x_cmp_le, x_cmp_gt, x_cmp_lt, x_cmp_eq, not_true_eq_false, not_false_eq_true, true_and, and_true, Int.add_zero, Int.zero_add, Int.cast_ofNat_Int, Int.sub_zero, v10] <;> omega) | (simp (disch := omega) only [w32_id, w64_id, x_up_p, x_up_s, x_up_o, x_fill_p, x_fill_i, x_fill_o, x_cpy_p, x_cpy_i, x_cpy_o, x_upR_p, x_upR_s, x_upR_o, x_zM_p, x_zR_p, x_set_p, x_set_s, tb_CM, tb_SM, xm_cats, xm_cat, List.length_cons, List.length_nil, x_cmp_ge, x_cmp_le, x_cmp_gt, x_cmp_lt, x_cmp_eq, not_true_eq_false, not_false_eq_true, true_and, and_true, Int.add_zero, Int.zero_add, Int.cast_ofNat_Int, Int.sub_zero, v10]; done) | fail) ?_ (sw_vac (by first | omega | (simp (disch := omega) only [w32_id, w64_id, x_up_p, x_up_s, x_up_o, x_fill_p, x_fill_i, x_fill_o, x_cpy_p, x_cpy_i, x_cpy_o, x_upR_p, x_upR_s, x_upR_o, x_zM_p, x_zR_p, x_set_p, x_set_s, tb_CM, tb_SM, xm_cats, xm_cat, List.length_cons, List.length_nil, x_cmp_ge, x_cmp_le, x_cmp_gt, x_cmp_lt, x_cmp_eq, not_true_eq_false, not_false_eq_true, true_and, and_true, Int.add_zero, Int.zero_add, Int.cast_ofNat_Int, Int.sub_zero, v10] <;> omega) | (simp (disch := omega) only [w32_id, w64_id, x_up_p, x_up_s, x_up_o, x_fill_p, x_fill_i, x_fill_o, x_cpy_p, x_cpy_i, x_cpy_o, x_upR_p, x_upR_s, x_upR_o, x_zM_p, x_zR_p, x_set_p, x_set_s, tb_CM, tb_SM, xm_cats, xm_cat, List.length_cons, List.length_nil, x_cmp_ge, x_cmp_le, x_cmp_gt, x_cmp_lt, x_cmp_eq, not_true_eq_false, not_false_eq_true, true_and, and_true, Int.add_zero, Int.zero_add, Int.cast_ofNat_Int, Int.sub_zero, v10]; done) | fail)); (conv => whnf)) | (refine sw_next (by first | omega | (simp (disch := omega) only [w32_id, w64_id, x_up_p, x_up_s, x_up_o, x_fill_p, x_fill_i, x_fill_o, x_cpy_p, x_cpy_i, x_cpy_o, x_upR_p, x_upR_s, x_upR_o, x_zM_p, x_zR_p, x_set_p, x_set_s, tb_CM, tb_SM, xm_cats, xm_cat, List.length_cons, List.length_nil, x_cmp_ge, x_cmp_le, x_cmp_gt, x_cmp_lt, x_cmp_eq, not_true_eq_false, not_false_eq_true, true_and, and_true, Int.add_zero, Int.zero_add, Int.cast_ofNat_Int, Int.sub_zero, v10] <;> omega) | (simp (disch := omega) only [w32_id, w64_id, x_up_p, x_up_s, x_up_o, x_fill_p, x_fill_i, x_fill_o, x_cpy_p, x_cpy_i, x_cpy_o, x_upR_p, x_upR_s, x_upR_o, x_zM_p, x_zR_p, x_set_p, x_set_s, tb_CM, tb_SM, xm_cats, xm_cat, List.length_cons, List.length_nil, x_cmp_ge, x_cmp_le, x_cmp_gt, x_cmp_lt, x_cmp_eq, not_true_eq_false, not_false_eq_true, true_and, and_true, Int.add_zero, Int.zero_add, Int.cast_ofNat_Int, Int.sub_zero, v10]; done) | fail) ?_; (conv => whnf)) | (refine sw_def (by first | omega | (simp (disch := omega) only [w32_id, w64_id, x_up_p, x_up_s, x_up_o, x_fill_p, x_fill_i, x_fill_o, x_cpy_p, x_cpy_i, x_cpy_o, x_upR_p, x_upR_s, x_upR_o, x_zM_p, x_zR_p, x_set_p, x_set_s, tb_CM, tb_SM, xm_cats, xm_cat, List.length_cons, List.length_nil, x_cmp_ge, x_cmp_le, x_cmp_gt, x_cmp_lt, x_cmp_eq, not_true_eq_false, not_false_eq_true, true_and, and_true, Int.add_zero, Int.zero_add, Int.cast_ofNat_Int, Int.sub_zero, v10] <;> omega) | (simp (disch := omega) only [w32_id, w64_id, x_up_p, x_up_s, x_up_o, x_fill_p, x_fill_i, x_fill_o, x_cpy_p, x_cpy_i, x_cpy_o, x_upR_p, x_upR_s, x_upR_o, x_zM_p, x_zR_p, x_set_p, x_set_s, tb_CM, tb_SM, xm_cats, xm_cat, List.length_cons, List.length_nil, x_cmp_ge, x_cmp_le, x_cmp_gt, x_cmp_lt, x_cmp_eq, not_true_eq_false, not_false_eq_true, true_and, and_true, Int.add_zero, Int.zero_add, Int.cast_ofNat_Int, Int.sub_zero, v10]; done) | fail) ?_; (conv => whnf)) | (refine And.intro (by first | omega | (simp (disch := omega) only [w32_id, w64_id, x_up_p, x_up_s, x_up_o, x_fill_p, x_fill_i, x_fill_o, x_cpy_p, x_cpy_i, x_cpy_o, x_upR_p, x_upR_s, x_upR_o, x_zM_p, x_zR_p, x_set_p, x_set_s, tb_CM, tb_SM, xm_cats, xm_cat, List.length_cons, List.length_nil, x_cmp_ge, x_cmp_le, x_cmp_gt, x_cmp_lt, x_cmp_eq, not_true_eq_false, not_false_eq_true, true_and, and_true, Int.add_zero, Int.zero_add, Int.cast_ofNat_Int, Int.sub_zero, v10] <;> omega) | (simp (disch := omega) only [w32_id, w64_id, x_up_p, x_up_s, x_up_o, x_fill_p, x_fill_i, x_fill_o, x_cpy_p, x_cpy_i, x_cpy_o, x_upR_p, x_upR_s, x_upR_o, x_zM_p, x_zR_p, x_set_p, x_set_s, tb_CM, tb_SM, xm_cats, xm_cat, List.length_cons, List.length_nil, x_cmp_ge, x_cmp_le, x_cmp_gt, x_cmp_lt, x_cmp_eq, not_true_eq_false, not_false_eq_true, true_and, and_true, Int.add_zero, Int.zero_add, Int.cast_ofNat_Int, Int.sub_zero, v10]; done) | fail) ?_; (conv => whnf)))
    exact hq
theorem iv_ext {ρ' : Nat → Option xk} {e' sl' : Nat} {M' : Nat → Int → Int} {R' : Nat → Int → Option Nat} (h : iv (ρ, e, M, R, sl)) (hρ : ∀ i, i < e → ρ' i = ρ i) (he : e ≤ e') (hM : ∀ x, x < e + 174 → M' x = M x) (hR7 : ∀ f, f < M 0 9 → R' 7 f = R 7 f) (hR38 : ∀ f, R' 38 f = R 38 f) : iv (ρ', e', M', R', sl') := by
  obtain ⟨h1, h2, h3, h4, h5, h6, h7, h8⟩ := h
  have a1 : ∀ (x : Nat) (j : Int), x < 174 → M' x j = M x j := fun x j b => by rw [hM x (by omega)]
  refine ⟨?_, ?_, ?_, ?_, ?_, ?_, ?_, trivial⟩
  · simpa (disch := omega) only [iv_t, a1] using h1
  · simpa (disch := omega) only [iv_s, a1] using h2
  · simpa (disch := omega) only [iv_d, a1] using h3
  · simpa (disch := omega) only [iv_p, a1] using h4
  · simpa (disch := omega) only [iv_c, a1] using h5
  · simpa (disch := omega) only [iv_m, a1] using h6
  · have h7 : iv_k ρ e M R := h7
    show iv_k ρ' e' M' R'
    unfold iv_k
    intro a b f f0 f1
    rw [a1 _ _ (by decide)] at a b f1
    obtain ⟨⟨p, hp⟩, w, w1, w2, w3, w4, w5, w6⟩ := h7 a b f f0 f1
    refine ⟨⟨p, by rw [hR7 f f1]; exact hp⟩, w, by rw [hR38]; exact w1, by omega, by rw [hρ w w2]; exact w3, ?_, ?_, fun i i0 i1 => ?_⟩
    · rw [a1 _ _ (by decide), a1 _ _ (by decide)]
      exact w4
    · rw [a1 _ _ (by decide)]
      exact w5
    · rw [a1 _ _ (by decide)] at i1
      have w7 := w6 i i0 i1
      rw [hM (w + 174) (by omega)]
      simpa (disch := omega) only [a1] using w7
/-- what is there of objects stays, but for the reader's tree; trees may be new -/
def dHg (ρ : Nat → Option xk) (e : Nat) (R : Nat → Int → Option Nat) (ρ' : Nat → Option xk) (e' : Nat) (R' : Nat → Int → Option Nat) : Prop := (∀ i, i < e → ρ' i = ρ i) ∧ e ≤ e' ∧ (∀ x i, x < e + 174 → x ≠ 6 → x ≠ 7 → R' x i = R x i) ∧ ∀ k, R' 7 k = R 7 k ∨ ∃ q : Nat, e ≤ q ∧ R' 7 k = some (q + 175)
theorem dHg_rf {ρ : Nat → Option xk} {e : Nat} {R : Nat → Int → Option Nat} : dHg ρ e R ρ e R := ⟨fun _ _ => rfl, Nat.le_refl _, fun _ _ _ _ _ => rfl, fun _ => .inl rfl⟩
theorem dHg_tr {ρ ρ1 ρ2 : Nat → Option xk} {e e1 e2 : Nat} {R R1 R2 : Nat → Int → Option Nat} (h1 : dHg ρ e R ρ1 e1 R1) (h2 : dHg ρ1 e1 R1 ρ2 e2 R2) : dHg ρ e R ρ2 e2 R2 := by
  obtain ⟨a1, a2, a3, a4⟩ := h1
  obtain ⟨b1, b2, b3, b4⟩ := h2
  refine ⟨fun i hi => (b1 i (by omega)).trans (a1 i hi), by omega, fun x i hx h6 h7 => (b3 x i (by omega) h6 h7).trans (a3 x i hx h6 h7), fun k => ?_⟩
  rcases b4 k with h | ⟨q, q1, q2⟩
  · rcases a4 k with h' | ⟨q, q1, q2⟩
    · exact .inl (h.trans h')
    · exact .inr ⟨q, q1, h.trans q2⟩
  · exact .inr ⟨q, by omega, q2⟩
theorem dHg_rd {ρ : Nat → Option xk} {e q : Nat} {R : Nat → Int → Option Nat} : dHg ρ e R ρ e (d_rd q R) := ⟨fun _ _ => rfl, Nat.le_refl _, fun _ _ _ h _ => d_rd_ne h, fun _ => .inl (d_rd_ne (by decide))⟩
theorem dHg_ex {ρ : Nat → Option xk} {e : Nat} {R : Nat → Int → Option Nat} {k : xk} : dHg ρ e R (x_new ρ e k) (e + 1) (x_zR R (e + 174)) := ⟨fun i hi => by unfold x_new; rw [if_neg (by omega)], by omega, fun _ _ h _ _ => x_zR_p (by omega), fun _ => .inl (x_zR_p (by omega))⟩
/-- a tree for it is there, or made -/
theorem de_front (hE : ∀ j, (eX j).1 ≤ 1000000) {t n : Int} (h : iv (ρ, e, M, R, sl)) (hf : fnP (ρ, e, M, R, sl)) (hr : rm (t + 1) (ρ, e, M, R, sl)) (ht : 0 ≤ t) (hn : M 0 9 = n) : ∃ (q : Nat) (ρ1 : Nat → Option xk) (e1 : Nat) (M1 : Nat → Int → Int) (R1 : Nat → Int → Option Nat) (sl1 : Nat), (∀ d, xm_call tb_P eX tb_K0 174 (d + 3) 160 [.inr (.inr (some 1)), .inl n] (ρ, e, M, R, sl) (fun oo s' => oo = .inl (some (.inr (.inr (some (q + 175))))) ∧ s' = (ρ1, e1, M1, R1, sl1))) ∧ iv (ρ1, e1, M1, R1, sl1) ∧ fnP (ρ1, e1, M1, R1, sl1) ∧ rm (t + 1) (ρ1, e1, M1, R1, sl1) ∧ R1 7 n = some (q + 175) ∧ M1 0 9 = n ∧ dHg ρ e R ρ1 e1 R1 ∧ ∀ x, x < 174 → M1 x = M x := by
  have hp := h.2.2.2.1
  unfold iv_p at hp
  dsimp only at hp
  have hn8 : 0 ≤ n ∧ n ≤ 8 := by omega
  have f1 := hf.1 n hn8.1 hn8.2
  dsimp only at f1
  rcases f1 with h0 | ⟨q, h0, -⟩
  · have hr2 := hr
    obtain ⟨r1, r2, r3⟩ := hr2
    dsimp only at r1 r2 r3
    have r0 := x_po_0 R
    obtain ⟨n1, n2, n3⟩ := hf
    dsimp only at n1 n2 n3
    refine ⟨e, _, _, _, _, _, fun d => r_160c hE hn8 h0 (by omega) ⟨rfl, rfl⟩, ?_, ?_, ?_, x_upR_s rfl, ?_, ⟨fun i hi => by unfold x_new; rw [if_neg (by omega), if_neg (by omega)], by omega, fun x i hx h6 h7 => by rw [x_upR_p h7, x_upR_p (by omega), x_zR_p (by omega), x_zR_p (by omega)], fun k => by
      by_cases hk : k = n
      · exact .inr ⟨e, Nat.le_refl _, by rw [hk, x_upR_s rfl]⟩
      · exact .inl (by rw [x_upR_o hk, x_upR_p (by omega), x_zR_p (by omega), x_zR_p (by omega)])⟩, fun x hx => by rw [x_up_ne (by omega)]; funext j; rw [x_zM_p (by omega), x_zM_p (by omega)]⟩
    · refine iv_ext h (fun i hi => by unfold x_new; rw [if_neg (by omega), if_neg (by omega)]) (by omega) (fun x hx => by rw [x_up_ne (by omega)]; funext j; rw [x_zM_p (by omega), x_zM_p (by omega)]) (fun f hlt => by rw [x_upR_o (by omega), x_upR_p (by omega), x_zR_p (by omega), x_zR_p (by omega)]) (fun f => by rw [x_upR_p (by decide), x_upR_p (by omega), x_zR_p (by omega), x_zR_p (by omega)])
    · have c0 := c_T_new (ρ := ρ) (e := e) (R := R) (n := n)
      have m0 : ∀ x, x < e + 174 → x_up (x_zM (x_zM M (e + 174)) (e + 1 + 174)) (e + 174) 1 1 x = M x := fun x hx => by rw [x_up_ne (by omega)]; funext j; rw [x_zM_p (by omega), x_zM_p (by omega)]
      have ρ0 : ∀ i, i < e → x_new (x_new ρ e (.inr (10, c_TF))) (e + 1) (.inl (0, 4500)) i = ρ i := fun i hi => by unfold x_new; rw [if_neg (by omega), if_neg (by omega)]
      have g7 : x_upR (x_upR (x_zR (x_zR R (e + 174)) (e + 1 + 174)) (e + 174) 0 (some (e + 1 + 175))) 7 n (some (e + 175)) 7 n = some (e + 175) := x_upR_s rfl
      have g0 : ∀ x i, x < e + 174 → (x ≠ 7 ∨ i ≠ n) → x_upR (x_upR (x_zR (x_zR R (e + 174)) (e + 1 + 174)) (e + 174) 0 (some (e + 1 + 175))) 7 n (some (e + 175)) x i = R x i := fun x i hx hc => by
        by_cases h7 : x = 7
        · subst h7
          rw [x_upR_o (by omega), x_upR_p (by omega), x_zR_p (by omega), x_zR_p (by omega)]
        · rw [x_upR_p h7, x_upR_p (by omega), x_zR_p (by omega), x_zR_p (by omega)]
      generalize x_up (x_zM (x_zM M (e + 174)) (e + 1 + 174)) (e + 174) 1 1 = M1 at m0 ⊢
      generalize x_new (x_new ρ e (.inr (10, c_TF))) (e + 1) (.inl (0, 4500)) = ρ1 at c0 ρ0 ⊢
      generalize x_upR (x_upR (x_zR (x_zR R (e + 174)) (e + 1 + 174)) (e + 174) 0 (some (e + 1 + 175))) 7 n (some (e + 175)) = R1 at c0 g7 g0 ⊢
      have old : ∀ k (w : Nat), 0 ≤ k → k ≤ 8 → k ≠ n → R1 7 k = some (w + 175) → R 7 k = some (w + 175) ∧ c_T ρ R w ∧ w + 2 ≤ e := fun k w a b hk hw => by
        rw [g0 7 k (by omega) (.inr hk)] at hw
        rcases n1 k a b with h | ⟨w', w1, w2, w3⟩
        · rw [hw] at h; cases h
        · rw [hw] at w1
          injection w1 with w1
          have : w' = w := by omega
          subst this
          exact ⟨hw, w2, w3⟩
      refine ⟨fun k a b => ?_, fun k k' w a b a' b' hk hw hw' => ?_, fun f a b c => ?_⟩
      · dsimp only
        by_cases hk : k = n
        · subst hk
          exact .inr ⟨e, g7, c0, by omega⟩
        · rcases n1 k a b with h | ⟨w, w1, ⟨w2, w3, w4⟩, w5⟩
          · exact .inl (by rw [g0 7 k (by omega) (.inr hk)]; exact h)
          · exact .inr ⟨w, by rw [g0 7 k (by omega) (.inr hk)]; exact w1, ⟨by rw [ρ0 w (by omega)]; exact w2, by rw [ρ0 (w + 1) (by omega)]; exact w3, by rw [g0 (w + 174) 0 (by omega) (.inl (by omega))]; exact w4⟩, by omega⟩
      · dsimp only at hw hw'
        by_cases h1 : k = n
        · subst h1
          have o2 := old k' w a' b' (fun z => hk z.symm) hw'
          rw [g7] at hw
          injection hw with hw
          omega
        · by_cases h2 : k' = n
          · subst h2
            have o1 := old k w a b hk hw
            rw [g7] at hw'
            injection hw' with hw'
            omega
          · exact n2 k k' w a b a' b' hk (old k w a b h1 hw).1 (old k' w a' b' h2 hw').1
      · dsimp only at c ⊢
        rw [m0 0 (by omega)] at c
        obtain ⟨w, w1, w2, w3⟩ := n3 f a b c
        have hfn : f ≠ n := by omega
        have g1 : R1 7 f = some (w + 175) := by rw [g0 7 f (by omega) (.inr hfn)]; exact w1
        have o1 := old f w a b hfn g1
        have k1 : M1 (w + 174) = M (w + 174) := m0 _ (by omega)
        have k2 : M1 (w + 175) = M (w + 175) := m0 _ (by omega)
        refine ⟨w, g1, by rw [k1]; exact w2, ?_⟩
        rw [k1, k2]
        refine fR_mf (n := f + 1) ⟨a, by omega⟩ w3 ?_
        have z : ∀ (x : Nat) (i : Int), x < 174 → M1 x i = M x i := fun x i hx => by rw [m0 x (by omega)]
        exact ⟨⟨fun x i _ _ _ _ _ _ => z x i (by omega), fun i _ => z 87 i (by omega), fun x i _ _ => z x i (by omega)⟩, fun x i _ _ _ => z x i (by omega), fun x i _ _ _ => z x i (by omega), fun x i _ _ _ => z x i (by omega), fun x i _ _ _ => z x i (by omega), fun x i _ _ _ => z x i (by omega), fun i _ => z 118 i (by omega)⟩
    · refine rm_t (p := e + 175) hr hn8 h0 (x_upR_s rfl) (fun x i hx hc => ?_)
      by_cases h7 : x = 7
      · subst h7
        rw [x_upR_o (by omega), x_upR_p (by omega), x_zR_p (by omega), x_zR_p (by omega)]
      · rw [x_upR_p h7, x_upR_p (by omega), x_zR_p (by omega), x_zR_p (by omega)]
    · rw [x_up_p (by omega), x_zM_p (by omega), x_zM_p (by omega)]
      exact hn
  · exact ⟨q, ρ, e, M, R, sl, fun d => r_160 hE hn8 h0 ⟨rfl, rfl⟩, h, hf, hr, h0, hn, dHg_rf, fun _ _ => rfl⟩
end

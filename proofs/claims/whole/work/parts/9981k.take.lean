/-! THE CLASS'S EXPRESSIONS AND SHAPES that are used again. ow: whose a cell is: pool's k is k, shape i's are 1000 + 10 i and on -/
def kPl (ρ : Nat → Option xk) (e : Nat) (R : Nat → Int → Option Nat) (ow : Nat → Int) : Prop := ∀ k, 0 ≤ k → k < 300 → R 33 k = none ∨ ∃ x, R 33 k = some (x + 1) ∧ c_E ρ R x ∧ (ow x = k ∧ ow (x + 1) = k) ∧ x + 2 ≤ e + 174
/-- a shape at y: its index, relations, gaps behind it -/
def c_S (ρ : Nat → Option xk) (R : Nat → Int → Option Nat) (y : Nat) : Prop := (xm_kd tb_K0 y ρ = some (.inr (11, [(0, 0, 0), (3, 0, 1), (0, 0, 2), (3, 0, 3), (3, 0, 4)])) ∧ c_E ρ R (y + 1) ∧ xm_kd tb_K0 (y + 3) ρ = some (.inl (0, 4)) ∧ xm_kd tb_K0 (y + 4) ρ = some (.inl (5, 4))) ∧ R y 1 = some (y + 2) ∧ R y 3 = some (y + 4) ∧ R y 4 = some (y + 5)
def kGp (ρ : Nat → Option xk) (e : Nat) (R : Nat → Int → Option Nat) (ow : Nat → Int) (i : Int) (y : Nat) : Prop := ∀ j, 0 ≤ j → j < 4 → R (y + 4) j = none ∨ ∃ x, R (y + 4) j = some (x + 1) ∧ c_E ρ R x ∧ (ow x = 1001 + 10 * i + j ∧ ow (x + 1) = 1001 + 10 * i + j) ∧ x + 2 ≤ e + 174
def kSh (ρ : Nat → Option xk) (e : Nat) (R : Nat → Int → Option Nat) (ow : Nat → Int) : Prop := ∀ i, 0 ≤ i → i < 20 → R 34 i = none ∨ ∃ y, R 34 i = some (y + 1) ∧ c_S ρ R y ∧ (174 ≤ y ∧ y + 5 ≤ e + 174) ∧ (∀ z, y ≤ z → z < y + 5 → ow z = 1000 + 10 * i) ∧ kGp ρ e R ow i y
def kHp (ρ : Nat → Option xk) (e : Nat) (R : Nat → Int → Option Nat) (ow : Nat → Int) : Prop := kPl ρ e R ow ∧ kSh ρ e R ow ∧ ∀ i : Nat, i < 8 → R 16 (i : Int) = some (17 + 2 * i + 1)
/-- there may be more of them; there is room as before -/
def kG (ρ : Nat → Option xk) (e : Nat) (R : Nat → Int → Option Nat) (sl : Nat) (ow : Nat → Int) (ρ' : Nat → Option xk) (e' : Nat) (R' : Nat → Int → Option Nat) (sl' : Nat) (ow' : Nat → Int) : Prop := (∀ i, i < e → ρ' i = ρ i) ∧ e ≤ e' ∧ (∀ x i p, x ≠ 8 → x ≠ 10 → x ≠ 36 → x < e + 174 → R x i = some p → R' x i = some p) ∧ (∀ x, x < e + 174 → ow' x = ow x) ∧ ∀ t M M', rm t (ρ, e, M, R, sl) → rm t (ρ', e', M', R', sl')
section
variable {ρ ρ1 ρ2 : Nat → Option xk} {e e1 e2 : Nat} {R R1 R2 : Nat → Int → Option Nat} {sl sl1 sl2 : Nat} {ow ow1 ow2 : Nat → Int}
theorem kG_rf : kG ρ e R sl ow ρ e R sl ow := ⟨fun _ _ => rfl, Nat.le_refl _, fun _ _ _ _ _ _ _ h => h, fun _ _ => rfl, fun _ _ _ h => h⟩
theorem kG_tr (h1 : kG ρ e R sl ow ρ1 e1 R1 sl1 ow1) (h2 : kG ρ1 e1 R1 sl1 ow1 ρ2 e2 R2 sl2 ow2) : kG ρ e R sl ow ρ2 e2 R2 sl2 ow2 := by
  obtain ⟨a1, a2, a3, a4, a5⟩ := h1
  obtain ⟨b1, b2, b3, b4, b5⟩ := h2
  exact ⟨fun i hi => (b1 i (by omega)).trans (a1 i hi), by omega, fun x i p c1 c2 c3 c4 c5 => b3 x i p c1 c2 c3 (by omega) (a3 x i p c1 c2 c3 c4 c5), fun x hx => (b4 x (by omega)).trans (a4 x hx), fun t M M' h => b5 t M M' (a5 t M M h)⟩
theorem xm_kd_dy {x : Nat} (h : 174 ≤ x) : xm_kd tb_K0 x ρ = ρ (x - 174) := by
  obtain ⟨q, rfl⟩ : ∃ q, x = q + 174 := ⟨x - 174, by omega⟩
  rw [show q + 174 - 174 = q by omega]
  rcases h : ρ q with _ | kd
  · have hl : ∀ (l : List xk) (y : Nat), l.length ≤ y → xm_kd l y ρ = ρ (y - l.length) := by
      intro l
      induction l with
      | nil => intro y _; rfl
      | cons a l ih =>
        intro y hy
        cases y with
        | zero => simp at hy
        | succ y =>
          have := ih y (by simpa using hy)
          show xm_kd l y ρ = _
          rw [this]
          congr 1
          simp
    have := hl tb_K0 (q + 174) (show tb_K0.length ≤ q + 174 from by rw [show tb_K0.length = 174 from rfl]; omega)
    rw [this, show tb_K0.length = 174 from rfl, show q + 174 - 174 = q by omega, h]
  · exact tb_dyn h
theorem c_E_g {x : Nat} (h : c_E ρ R x) (hg : kG ρ e R sl ow ρ1 e1 R1 sl1 ow1) (hx : x + 2 ≤ e + 174) : c_E ρ1 R1 x := by
  have hge := c_E_ge h
  obtain ⟨h1, h2, h3⟩ := h
  obtain ⟨a1, a2, a3, a4, a5⟩ := hg
  rw [xm_kd_dy hge] at h1
  rw [xm_kd_dy (by omega)] at h2
  exact ⟨by rw [xm_kd_dy hge, a1 _ (by omega)]; exact h1, by rw [xm_kd_dy (by omega), a1 _ (by omega)]; exact h2, a3 x 0 _ (by omega) (by omega) (by omega) (by omega) h3⟩
theorem c_T_g {q : Nat} (h : c_T ρ R q) (hg : kG ρ e R sl ow ρ1 e1 R1 sl1 ow1) (hq : q + 2 ≤ e) : c_T ρ1 R1 q := by
  obtain ⟨h1, h2, h3⟩ := h
  obtain ⟨a1, a2, a3, a4, a5⟩ := hg
  exact ⟨by rw [a1 q (by omega)]; exact h1, by rw [a1 (q + 1) (by omega)]; exact h2, a3 (q + 174) 0 _ (by omega) (by omega) (by omega) (by omega) h3⟩
theorem c_S_g {y : Nat} (h : c_S ρ R y) (hg : kG ρ e R sl ow ρ1 e1 R1 sl1 ow1) (hy : 174 ≤ y ∧ y + 5 ≤ e + 174) : c_S ρ1 R1 y := by
  obtain ⟨⟨h1, h2, h3, h4⟩, h5, h6, h7⟩ := h
  have h2' := c_E_g h2 hg (by omega)
  obtain ⟨a1, a2, a3, a4, a5⟩ := hg
  rw [xm_kd_dy (by omega)] at h1 h3 h4
  exact ⟨⟨by rw [xm_kd_dy (by omega), a1 _ (by omega)]; exact h1, h2', by rw [xm_kd_dy (by omega), a1 _ (by omega)]; exact h3, by rw [xm_kd_dy (by omega), a1 _ (by omega)]; exact h4⟩, a3 y 1 _ (by omega) (by omega) (by omega) (by omega) h5, a3 y 3 _ (by omega) (by omega) (by omega) (by omega) h6, a3 y 4 _ (by omega) (by omega) (by omega) (by omega) h7⟩
end
/-- room for what may be made -/
theorem rm_in2 {ρ : Nat → Option xk} {e sl : Nat} {M : Nat → Int → Int} {R : Nat → Int → Option Nat} {t : Int} (h : rm t (ρ, e, M, R, sl)) (ht : 0 ≤ t) : e ≤ 1580 ∧ sl + 20000 ≤ 7293034 := by
  obtain ⟨h1, h2, h3⟩ := h
  dsimp only at h1 h2 h3
  have := x_po_0 R
  omega
/-- a new expression for the pool -/
theorem rm_p {ρ ρ' : Nat → Option xk} {e sl : Nat} {M M' : Nat → Int → Int} {R R' : Nat → Int → Option Nat} {t k : Int} {p : Nat} (h : rm t (ρ, e, M, R, sl)) (hn : 0 ≤ k ∧ k < 300) (h0 : R 33 k = none) (h1 : R' 33 k = some p) (hd : ∀ x i, x < e + 174 → (x ≠ 33 ∨ i ≠ k) → R' x i = R x i) : rm t (ρ', e + 2, M', R', sl + 28) := by
  obtain ⟨r1, r2, r3⟩ := h
  dsimp only at r1 r2 r3
  have e7 : R' 7 = R 7 := funext fun i => hd 7 i (by omega) (by omega)
  have e38 : R' 38 = R 38 := funext fun i => hd 38 i (by omega) (by omega)
  have h34 : ∀ j, R' 34 j = R 34 j := fun j => hd 34 j (by omega) (by omega)
  have hd' : ∀ x i, 174 ≤ x → x < e + 174 → R' x i = R x i := fun x i a b => hd x i b (by omega)
  have h7 := (x_cnt_up h0 h1 (fun j hj => hd 33 j (by omega) (.inr hj)) 300).1 (by omega) hn.1
  have hp : x_po R' = x_po R - 2 := by
    unfold x_po
    rw [h7, e7, e38, x_pS_c r3 h34 hd' 20 (by omega)]
    omega
  refine ⟨?_, ?_, x_wR_c (e' := e + 2) r3 h34 hd' (by omega)⟩
  · dsimp only
    rw [hp]
    omega
  · dsimp only
    omega
/-- an expression that is new -/
theorem c_E_new {ρ : Nat → Option xk} {e : Nat} {R : Nat → Int → Option Nat} {k : Int} : c_E (x_new (x_new ρ e (.inr (4, [(3, 0, 0), (0, 0, 1)]))) (e + 1) (.inl (1, 26))) (x_upR (x_upR (x_zR (x_zR R (e + 174)) (e + 1 + 174)) (e + 174) 0 (some (e + 1 + 175))) 33 k (some (e + 175))) (e + 174) := by
  refine ⟨?_, ?_, ?_⟩
  · rw [xm_kd_dy (by omega), show e + 174 - 174 = e by omega]
    unfold x_new
    rw [if_neg (by omega), if_pos rfl]
  · rw [xm_kd_dy (by omega), show e + 174 + 1 - 174 = e + 1 by omega]
    unfold x_new
    rw [if_pos rfl]
  · rw [x_upR_p (by omega), x_upR_s rfl]
section
variable {ρ : Nat → Option xk} {e sl d : Nat} {M : Nat → Int → Int} {R : Nat → Int → Option Nat} {eX : Nat → Nat × (Nat → Int32)} {Q : xK}
variable {ow : Nat → Int}
set_option linter.unusedSimpArgs false in
set_option maxRecDepth 100000 in
set_option maxHeartbeats 4000000 in
theorem n_265a (hE : ∀ j, (eX j).1 ≤ 1000000) {n : Int} {x : Nat} (hn : M 8 6 = n) (hn1 : 0 ≤ n ∧ n < 300) (hR : R 33 n = some (x + 1)) (hQ : Q (.inl (some (.inr (.inr (some (x + 1)))))) (ρ, e, x_up M 8 6 (n + 1), R, sl)) : xm_call tb_P eX tb_K0 174 (d + 3) 265 [.inr (.inr (some 9))] (ρ, e, M, R, sl) Q := by
  subst hn
  have hw : w32 (M 8 6 + 1) = M 8 6 + 1 := by simp (disch := omega) only [w32_id]
  have hidx : w32 (x_up M 8 6 (w32 (M 8 6 + 1)) 8 6 - 1) = M 8 6 := by
    rw [hw, x_up_s rfl]
    simp (disch := omega) only [w32_id]
    omega
  rw [← hw] at hQ
  refine xm_run hE (fun _ _ => none) (fun _ => true) (fun Ff C hF hC => ?_)
  (conv => whnf)
  repeat (first | (rw [hR]; (conv => whnf)) | (rw [hidx]; (conv => whnf)) | (refine br_t (by first | omega | (simp (disch := omega) only [w32_id, w64_id, x_up_p, x_up_s, x_up_o, x_fill_p, x_fill_i, x_fill_o, x_cpy_p, x_cpy_i, x_cpy_o, x_upR_p, x_upR_s, x_upR_o, x_zM_p, x_zR_p, x_set_p, x_set_s, tb_CM, tb_SM, xm_cats, xm_cat, List.length_cons, List.length_nil, x_cmp_ge, x_cmp_le, x_cmp_gt, x_cmp_lt, x_cmp_eq, not_true_eq_false, not_false_eq_true, true_and, and_true, Int.add_zero, Int.zero_add, Int.cast_ofNat_Int, Int.sub_zero] <;> omega) | (simp (disch := omega) only [w32_id, w64_id, x_up_p, x_up_s, x_up_o, x_fill_p, x_fill_i, x_fill_o, x_cpy_p, x_cpy_i, x_cpy_o, x_upR_p, x_upR_s, x_upR_o, x_zM_p, x_zR_p, x_set_p, x_set_s, tb_CM, tb_SM, xm_cats, xm_cat, List.length_cons, List.length_nil, x_cmp_ge, x_cmp_le, x_cmp_gt, x_cmp_lt, x_cmp_eq, not_true_eq_false, not_false_eq_true, true_and, and_true, Int.add_zero, Int.zero_add, Int.cast_ofNat_Int, Int.sub_zero]; done) | fail) ?_; (conv => whnf)) | (refine br_f (by first | omega | (simp (disch := omega) only [w32_id, w64_id, x_up_p, x_up_s, x_up_o, x_fill_p, x_fill_i, x_fill_o, x_cpy_p, x_cpy_i, x_cpy_o, x_upR_p, x_upR_s, x_upR_o, x_zM_p, x_zR_p, x_set_p, x_set_s, tb_CM, tb_SM, xm_cats, xm_cat, List.length_cons, List.length_nil, x_cmp_ge, x_cmp_le, x_cmp_gt, x_cmp_lt, x_cmp_eq, not_true_eq_false, not_false_eq_true, true_and, and_true, Int.add_zero, Int.zero_add, Int.cast_ofNat_Int, Int.sub_zero] <;> omega) | (simp (disch := omega) only [w32_id, w64_id, x_up_p, x_up_s, x_up_o, x_fill_p, x_fill_i, x_fill_o, x_cpy_p, x_cpy_i, x_cpy_o, x_upR_p, x_upR_s, x_upR_o, x_zM_p, x_zR_p, x_set_p, x_set_s, tb_CM, tb_SM, xm_cats, xm_cat, List.length_cons, List.length_nil, x_cmp_ge, x_cmp_le, x_cmp_gt, x_cmp_lt, x_cmp_eq, not_true_eq_false, not_false_eq_true, true_and, and_true, Int.add_zero, Int.zero_add, Int.cast_ofNat_Int, Int.sub_zero]; done) | fail) ?_; (conv => whnf)) | (refine sw_in (by first | omega | (simp (disch := omega) only [w32_id, w64_id, x_up_p, x_up_s, x_up_o, x_fill_p, x_fill_i, x_fill_o, x_cpy_p, x_cpy_i, x_cpy_o, x_upR_p, x_upR_s, x_upR_o, x_zM_p, x_zR_p, x_set_p, x_set_s, tb_CM, tb_SM, xm_cats, xm_cat, List.length_cons, List.length_nil, x_cmp_ge, x_cmp_le, x_cmp_gt, x_cmp_lt, x_cmp_eq, not_true_eq_false, not_false_eq_true, true_and, and_true, Int.add_zero, Int.zero_add, Int.cast_ofNat_Int, Int.sub_zero] <;> omega) | (simp (disch := omega) only [w32_id, w64_id, x_up_p, x_up_s, x_up_o, x_fill_p, x_fill_i, x_fill_o, x_cpy_p, x_cpy_i, x_cpy_o, x_upR_p, x_upR_s, x_upR_o, x_zM_p, x_zR_p, x_set_p, x_set_s, tb_CM, tb_SM, xm_cats, xm_cat, List.length_cons, List.length_nil, x_cmp_ge, x_cmp_le, x_cmp_gt, x_cmp_lt, x_cmp_eq, not_true_eq_false, not_false_eq_true, true_and, and_true, Int.add_zero, Int.zero_add, Int.cast_ofNat_Int, Int.sub_zero]; done) | fail) ?_; (conv => whnf)) | (refine sw_hit (by first | omega | (simp (disch := omega) only [w32_id, w64_id, x_up_p, x_up_s, x_up_o, x_fill_p, x_fill_i, x_fill_o, x_cpy_p, x_cpy_i, x_cpy_o, x_upR_p, x_upR_s, x_upR_o, x_zM_p, x_zR_p, x_set_p, x_set_s, tb_CM, tb_SM, xm_cats, xm_cat, List.length_cons, List.length_nil, x_cmp_ge, x_cmp_le, x_cmp_gt, x_cmp_lt, x_cmp_eq, not_true_eq_false, not_false_eq_true, true_and, and_true, Int.add_zero, Int.zero_add, Int.cast_ofNat_Int, Int.sub_zero] <;> omega) | (simp (disch := omega) only [w32_id, w64_id, x_up_p, x_up_s, x_up_o, x_fill_p, x_fill_i, x_fill_o, x_cpy_p, x_cpy_i, x_cpy_o, x_upR_p, x_upR_s, x_upR_o, x_zM_p, x_zR_p, x_set_p, x_set_s, tb_CM, tb_SM, xm_cats, xm_cat, List.length_cons, List.length_nil, x_cmp_ge, x_cmp_le, x_cmp_gt, x_cmp_lt, x_cmp_eq, not_true_eq_false, not_false_eq_true, true_and, and_true, Int.add_zero, Int.zero_add, Int.cast_ofNat_Int, Int.sub_zero]; done) | fail) ?_ (sw_vac (by first | omega | (simp (disch := omega) only [w32_id, w64_id, x_up_p, x_up_s, x_up_o, x_fill_p, x_fill_i, x_fill_o, x_cpy_p, x_cpy_i, x_cpy_o, x_upR_p, x_upR_s, x_upR_o, x_zM_p, x_zR_p, x_set_p, x_set_s, tb_CM, tb_SM, xm_cats, xm_cat, List.length_cons, List.length_nil, x_cmp_ge, x_cmp_le, x_cmp_gt, x_cmp_lt, x_cmp_eq, not_true_eq_false, not_false_eq_true, true_and, and_true, Int.add_zero, Int.zero_add, Int.cast_ofNat_Int, Int.sub_zero] <;> omega) | (simp (disch := omega) only [w32_id, w64_id, x_up_p, x_up_s, x_up_o, x_fill_p, x_fill_i, x_fill_o, x_cpy_p, x_cpy_i, x_cpy_o, x_upR_p, x_upR_s, x_upR_o, x_zM_p, x_zR_p, x_set_p, x_set_s, tb_CM, tb_SM, xm_cats, xm_cat, List.length_cons, List.length_nil, x_cmp_ge, x_cmp_le, x_cmp_gt, x_cmp_lt, x_cmp_eq, not_true_eq_false, not_false_eq_true, true_and, and_true, Int.add_zero, Int.zero_add, Int.cast_ofNat_Int, Int.sub_zero]; done) | fail)); (conv => whnf)) | (refine sw_next (by first | omega | (simp (disch := omega) only [w32_id, w64_id, x_up_p, x_up_s, x_up_o, x_fill_p, x_fill_i, x_fill_o, x_cpy_p, x_cpy_i, x_cpy_o, x_upR_p, x_upR_s, x_upR_o, x_zM_p, x_zR_p, x_set_p, x_set_s, tb_CM, tb_SM, xm_cats, xm_cat, List.length_cons, List.length_nil, x_cmp_ge, x_cmp_le, x_cmp_gt, x_cmp_lt, x_cmp_eq, not_true_eq_false, not_false_eq_true, true_and, and_true, Int.add_zero, Int.zero_add, Int.cast_ofNat_Int, Int.sub_zero] <;> omega) | (simp (disch := omega) only [w32_id, w64_id, x_up_p, x_up_s, x_up_o, x_fill_p, x_fill_i, x_fill_o, x_cpy_p, x_cpy_i, x_cpy_o, x_upR_p, x_upR_s, x_upR_o, x_zM_p, x_zR_p, x_set_p, x_set_s, tb_CM, tb_SM, xm_cats, xm_cat, List.length_cons, List.length_nil, x_cmp_ge, x_cmp_le, x_cmp_gt, x_cmp_lt, x_cmp_eq, not_true_eq_false, not_false_eq_true, true_and, and_true, Int.add_zero, Int.zero_add, Int.cast_ofNat_Int, Int.sub_zero]; done) | fail) ?_; (conv => whnf)) | (refine sw_def (by first | omega | (simp (disch := omega) only [w32_id, w64_id, x_up_p, x_up_s, x_up_o, x_fill_p, x_fill_i, x_fill_o, x_cpy_p, x_cpy_i, x_cpy_o, x_upR_p, x_upR_s, x_upR_o, x_zM_p, x_zR_p, x_set_p, x_set_s, tb_CM, tb_SM, xm_cats, xm_cat, List.length_cons, List.length_nil, x_cmp_ge, x_cmp_le, x_cmp_gt, x_cmp_lt, x_cmp_eq, not_true_eq_false, not_false_eq_true, true_and, and_true, Int.add_zero, Int.zero_add, Int.cast_ofNat_Int, Int.sub_zero] <;> omega) | (simp (disch := omega) only [w32_id, w64_id, x_up_p, x_up_s, x_up_o, x_fill_p, x_fill_i, x_fill_o, x_cpy_p, x_cpy_i, x_cpy_o, x_upR_p, x_upR_s, x_upR_o, x_zM_p, x_zR_p, x_set_p, x_set_s, tb_CM, tb_SM, xm_cats, xm_cat, List.length_cons, List.length_nil, x_cmp_ge, x_cmp_le, x_cmp_gt, x_cmp_lt, x_cmp_eq, not_true_eq_false, not_false_eq_true, true_and, and_true, Int.add_zero, Int.zero_add, Int.cast_ofNat_Int, Int.sub_zero]; done) | fail) ?_; (conv => whnf)) | (refine And.intro (by first | omega | (simp (disch := omega) only [w32_id, w64_id, x_up_p, x_up_s, x_up_o, x_fill_p, x_fill_i, x_fill_o, x_cpy_p, x_cpy_i, x_cpy_o, x_upR_p, x_upR_s, x_upR_o, x_zM_p, x_zR_p, x_set_p, x_set_s, tb_CM, tb_SM, xm_cats, xm_cat, List.length_cons, List.length_nil, x_cmp_ge, x_cmp_le, x_cmp_gt, x_cmp_lt, x_cmp_eq, not_true_eq_false, not_false_eq_true, true_and, and_true, Int.add_zero, Int.zero_add, Int.cast_ofNat_Int, Int.sub_zero] <;> omega) | (simp (disch := omega) only [w32_id, w64_id, x_up_p, x_up_s, x_up_o, x_fill_p, x_fill_i, x_fill_o, x_cpy_p, x_cpy_i, x_cpy_o, x_upR_p, x_upR_s, x_upR_o, x_zM_p, x_zR_p, x_set_p, x_set_s, tb_CM, tb_SM, xm_cats, xm_cat, List.length_cons, List.length_nil, x_cmp_ge, x_cmp_le, x_cmp_gt, x_cmp_lt, x_cmp_eq, not_true_eq_false, not_false_eq_true, true_and, and_true, Int.add_zero, Int.zero_add, Int.cast_ofNat_Int, Int.sub_zero]; done) | fail) ?_; (conv => whnf)))
  exact hQ
set_option linter.unusedSimpArgs false in
set_option maxRecDepth 100000 in
set_option maxHeartbeats 4000000 in
theorem n_265b (hE : ∀ j, (eX j).1 ≤ 1000000) {n : Int} (hn : M 8 6 = n) (hn1 : 0 ≤ n ∧ n < 300) (hR : R 33 n = none) (hr : e + 176 ≤ 601024 ∧ sl + 28 ≤ 7293034) (hQ : Q (.inl (some (.inr (.inr (some (e + 175)))))) (x_new (x_new ρ e (.inr (4, [(3, 0, 0), (0, 0, 1)]))) (e + 1) (.inl (1, 26)), e + 2, x_up (x_up (x_zM (x_zM M (e + 174)) (e + 1 + 174)) (e + 174) 1 0) 8 6 (n + 1), x_upR (x_upR (x_zR (x_zR R (e + 174)) (e + 1 + 174)) (e + 174) 0 (some (e + 1 + 175))) 33 n (some (e + 175)), sl + 28)) : xm_call tb_P eX tb_K0 174 (d + 3) 265 [.inr (.inr (some 9))] (ρ, e, M, R, sl) Q := by
  have v4 : tb_V4.length = 2 := rfl
  have h1 : x_new ρ e (.inr (4, xm_lay tb_V4 0)) e = some (.inr (4, xm_lay tb_V4 0)) := by unfold x_new; rw [if_pos rfl]
  have h2 : x_new (x_new ρ e (.inr (4, xm_lay tb_V4 0))) (e + 1) (.inl (1, 26)) e = some (.inr (4, xm_lay tb_V4 0)) := by unfold x_new; rw [if_neg (by omega), if_pos rfl]
  subst hn
  have hw : w32 (M 8 6 + 1) = M 8 6 + 1 := by simp (disch := omega) only [w32_id]
  have hz6 : x_up (x_zM (x_zM M (e + 174)) (e + 1 + 174)) (e + 174) 1 0 8 6 = M 8 6 := by rw [x_up_p (by omega), x_zM_p (by omega), x_zM_p (by omega)]
  refine xm_run hE (fun _ _ => none) (fun _ => true) (fun Ff C hF hC => ?_)
  (conv => whnf)
  repeat (first | (refine x_go (x_rc rfl (tb_dyn h1) rfl) ?_; (conv => whnf)) | (refine x_go (x_rc rfl (tb_dyn h2) rfl) ?_; (conv => whnf)) | (rw [hR]; (conv => whnf)) | (rw [tb_dyn h1]; (conv => whnf)) | (rw [tb_dyn h2]; (conv => whnf)) | (refine br_t (by first | omega | (simp (disch := omega) only [w32_id, w64_id, x_up_p, x_up_s, x_up_o, x_fill_p, x_fill_i, x_fill_o, x_cpy_p, x_cpy_i, x_cpy_o, x_upR_p, x_upR_s, x_upR_o, x_zM_p, x_zR_p, x_set_p, x_set_s, tb_CM, tb_SM, xm_cats, xm_cat, List.length_cons, List.length_nil, x_cmp_ge, x_cmp_le, x_cmp_gt, x_cmp_lt, x_cmp_eq, not_true_eq_false, not_false_eq_true, true_and, and_true, Int.add_zero, Int.zero_add, Int.cast_ofNat_Int, Int.sub_zero, v4] <;> omega) | (simp (disch := omega) only [w32_id, w64_id, x_up_p, x_up_s, x_up_o, x_fill_p, x_fill_i, x_fill_o, x_cpy_p, x_cpy_i, x_cpy_o, x_upR_p, x_upR_s, x_upR_o, x_zM_p, x_zR_p, x_set_p, x_set_s, tb_CM, tb_SM, xm_cats, xm_cat, List.length_cons, List.length_nil, x_cmp_ge, x_cmp_le, x_cmp_gt, x_cmp_lt, x_cmp_eq, not_true_eq_false, not_false_eq_true, true_and, and_true, Int.add_zero, Int.zero_add, Int.cast_ofNat_Int, Int.sub_zero, v4]; done) | fail) ?_; (conv => whnf)) | (refine br_f (by first | omega | (simp (disch := omega) only [w32_id, w64_id, x_up_p, x_up_s, x_up_o, x_fill_p, x_fill_i, x_fill_o, x_cpy_p, x_cpy_i, x_cpy_o, x_upR_p, x_upR_s, x_upR_o, x_zM_p, x_zR_p, x_set_p, x_set_s, tb_CM, tb_SM, xm_cats, xm_cat, List.length_cons, List.length_nil, x_cmp_ge, x_cmp_le, x_cmp_gt, x_cmp_lt, x_cmp_eq, not_true_eq_false, not_false_eq_true, true_and, and_true, Int.add_zero, Int.zero_add, Int.cast_ofNat_Int, Int.sub_zero, v4] <;> omega) | (simp (disch := omega) only [w32_id, w64_id, x_up_p, x_up_s, x_up_o, x_fill_p, x_fill_i, x_fill_o, x_cpy_p, x_cpy_i, x_cpy_o, x_upR_p, x_upR_s, x_upR_o, x_zM_p, x_zR_p, x_set_p, x_set_s, tb_CM, tb_SM, xm_cats, xm_cat, List.length_cons, List.length_nil, x_cmp_ge, x_cmp_le, x_cmp_gt, x_cmp_lt, x_cmp_eq, not_true_eq_false, not_false_eq_true, true_and, and_true, Int.add_zero, Int.zero_add, Int.cast_ofNat_Int, Int.sub_zero, v4]; done) | fail) ?_; (conv => whnf)) | (refine sw_in (by first | omega | (simp (disch := omega) only [w32_id, w64_id, x_up_p, x_up_s, x_up_o, x_fill_p, x_fill_i, x_fill_o, x_cpy_p, x_cpy_i, x_cpy_o, x_upR_p, x_upR_s, x_upR_o, x_zM_p, x_zR_p, x_set_p, x_set_s, tb_CM, tb_SM, xm_cats, xm_cat, List.length_cons, List.length_nil, x_cmp_ge, x_cmp_le, x_cmp_gt, x_cmp_lt, x_cmp_eq, not_true_eq_false, not_false_eq_true, true_and, and_true, Int.add_zero, Int.zero_add, Int.cast_ofNat_Int, Int.sub_zero, v4] <;> omega) | (simp (disch := omega) only [w32_id, w64_id, x_up_p, x_up_s, x_up_o, x_fill_p, x_fill_i, x_fill_o, x_cpy_p, x_cpy_i, x_cpy_o, x_upR_p, x_upR_s, x_upR_o, x_zM_p, x_zR_p, x_set_p, x_set_s, tb_CM, tb_SM, xm_cats, xm_cat, List.length_cons, List.length_nil, x_cmp_ge, x_cmp_le, x_cmp_gt, x_cmp_lt, x_cmp_eq, not_true_eq_false, not_false_eq_true, true_and, and_true, Int.add_zero, Int.zero_add, Int.cast_ofNat_Int, Int.sub_zero, v4]; done) | fail) ?_; (conv => whnf)) | (refine sw_hit (by first | omega | (simp (disch := omega) only [w32_id, w64_id, x_up_p, x_up_s, x_up_o, x_fill_p, x_fill_i, x_fill_o, x_cpy_p, x_cpy_i, x_cpy_o, x_upR_p, x_upR_s, x_upR_o, x_zM_p, x_zR_p, x_set_p, x_set_s, tb_CM, tb_SM, xm_cats, xm_cat, List.length_cons, List.length_nil, x_cmp_ge, x_cmp_le, x_cmp_gt, x_cmp_lt, x_cmp_eq, not_true_eq_false, not_false_eq_true, true_and, and_true, Int.add_zero, Int.zero_add, Int.cast_ofNat_Int, Int.sub_zero, v4] <;> omega) | (simp (disch := omega) only [w32_id, w64_id, x_up_p, x_up_s, x_up_o, x_fill_p, x_fill_i, x_fill_o, x_cpy_p, x_cpy_i, x_cpy_o, x_upR_p, x_upR_s, x_upR_o, x_zM_p, x_zR_p, x_set_p, x_set_s, tb_CM, tb_SM, xm_cats, xm_cat, List.length_cons, List.length_nil, x_cmp_ge, x_cmp_le, x_cmp_gt, x_cmp_lt, x_cmp_eq, not_true_eq_false, not_false_eq_true, true_and, and_true, Int.add_zero, Int.zero_add, Int.cast_ofNat_Int, Int.sub_zero, v4]; done) | fail) ?_ (sw_vac (by first | omega | (simp (disch := omega) only [w32_id, w64_id, x_up_p, x_up_s, x_up_o, x_fill_p, x_fill_i, x_fill_o, x_cpy_p, x_cpy_i, x_cpy_o, x_upR_p, x_upR_s, x_upR_o, x_zM_p, x_zR_p, x_set_p, x_set_s, tb_CM, tb_SM, xm_cats, xm_cat, List.length_cons, List.length_nil, x_cmp_ge, x_cmp_le, x_cmp_gt, x_cmp_lt, x_cmp_eq, not_true_eq_false, not_false_eq_true, true_and, and_true, Int.add_zero, Int.zero_add, Int.cast_ofNat_Int, Int.sub_zero, v4] <;> omega) | (simp (disch := omega) only [w32_id, w64_id, x_up_p, x_up_s, x_up_o, x_fill_p, x_fill_i, x_fill_o, x_cpy_p, x_cpy_i, x_cpy_o, x_upR_p, x_upR_s, x_upR_o, x_zM_p, x_zR_p, x_set_p, x_set_s, tb_CM, tb_SM, xm_cats, xm_cat, List.length_cons, List.length_nil, x_cmp_ge, x_cmp_le, x_cmp_gt, x_cmp_lt, x_cmp_eq, not_true_eq_false, not_false_eq_true, true_and, and_true, Int.add_zero, Int.zero_add, Int.cast_ofNat_Int, Int.sub_zero, v4]; done) | fail)); (conv => whnf)) | (refine sw_next (by first | omega | (simp (disch := omega) only [w32_id, w64_id, x_up_p, x_up_s, x_up_o, x_fill_p, x_fill_i, x_fill_o, x_cpy_p, x_cpy_i, x_cpy_o, x_upR_p, x_upR_s, x_upR_o, x_zM_p, x_zR_p, x_set_p, x_set_s, tb_CM, tb_SM, xm_cats, xm_cat, List.length_cons, List.length_nil, x_cmp_ge, x_cmp_le, x_cmp_gt, x_cmp_lt, x_cmp_eq, not_true_eq_false, not_false_eq_true, true_and, and_true, Int.add_zero, Int.zero_add, Int.cast_ofNat_Int, Int.sub_zero, v4] <;> omega) | (simp (disch := omega) only [w32_id, w64_id, x_up_p, x_up_s, x_up_o, x_fill_p, x_fill_i, x_fill_o, x_cpy_p, x_cpy_i, x_cpy_o, x_upR_p, x_upR_s, x_upR_o, x_zM_p, x_zR_p, x_set_p, x_set_s, tb_CM, tb_SM, xm_cats, xm_cat, List.length_cons, List.length_nil, x_cmp_ge, x_cmp_le, x_cmp_gt, x_cmp_lt, x_cmp_eq, not_true_eq_false, not_false_eq_true, true_and, and_true, Int.add_zero, Int.zero_add, Int.cast_ofNat_Int, Int.sub_zero, v4]; done) | fail) ?_; (conv => whnf)) | (refine sw_def (by first | omega | (simp (disch := omega) only [w32_id, w64_id, x_up_p, x_up_s, x_up_o, x_fill_p, x_fill_i, x_fill_o, x_cpy_p, x_cpy_i, x_cpy_o, x_upR_p, x_upR_s, x_upR_o, x_zM_p, x_zR_p, x_set_p, x_set_s, tb_CM, tb_SM, xm_cats, xm_cat, List.length_cons, List.length_nil, x_cmp_ge, x_cmp_le, x_cmp_gt, x_cmp_lt, x_cmp_eq, not_true_eq_false, not_false_eq_true, true_and, and_true, Int.add_zero, Int.zero_add, Int.cast_ofNat_Int, Int.sub_zero, v4] <;> omega) | (simp (disch := omega) only [w32_id, w64_id, x_up_p, x_up_s, x_up_o, x_fill_p, x_fill_i, x_fill_o, x_cpy_p, x_cpy_i, x_cpy_o, x_upR_p, x_upR_s, x_upR_o, x_zM_p, x_zR_p, x_set_p, x_set_s, tb_CM, tb_SM, xm_cats, xm_cat, List.length_cons, List.length_nil, x_cmp_ge, x_cmp_le, x_cmp_gt, x_cmp_lt, x_cmp_eq, not_true_eq_false, not_false_eq_true, true_and, and_true, Int.add_zero, Int.zero_add, Int.cast_ofNat_Int, Int.sub_zero, v4]; done) | fail) ?_; (conv => whnf)) | (refine And.intro (by first | omega | (simp (disch := omega) only [w32_id, w64_id, x_up_p, x_up_s, x_up_o, x_fill_p, x_fill_i, x_fill_o, x_cpy_p, x_cpy_i, x_cpy_o, x_upR_p, x_upR_s, x_upR_o, x_zM_p, x_zR_p, x_set_p, x_set_s, tb_CM, tb_SM, xm_cats, xm_cat, List.length_cons, List.length_nil, x_cmp_ge, x_cmp_le, x_cmp_gt, x_cmp_lt, x_cmp_eq, not_true_eq_false, not_false_eq_true, true_and, and_true, Int.add_zero, Int.zero_add, Int.cast_ofNat_Int, Int.sub_zero, v4] <;> omega) | (simp (disch := omega) only [w32_id, w64_id, x_up_p, x_up_s, x_up_o, x_fill_p, x_fill_i, x_fill_o, x_cpy_p, x_cpy_i, x_cpy_o, x_upR_p, x_upR_s, x_upR_o, x_zM_p, x_zR_p, x_set_p, x_set_s, tb_CM, tb_SM, xm_cats, xm_cat, List.length_cons, List.length_nil, x_cmp_ge, x_cmp_le, x_cmp_gt, x_cmp_lt, x_cmp_eq, not_true_eq_false, not_false_eq_true, true_and, and_true, Int.add_zero, Int.zero_add, Int.cast_ofNat_Int, Int.sub_zero, v4]; done) | fail) ?_; (conv => whnf)))
  try simp (disch := omega) only [w32_id, w64_id, x_up_p, x_up_s, x_up_o, x_fill_p, x_fill_i, x_fill_o, x_cpy_p, x_cpy_i, x_cpy_o, x_upR_p, x_upR_s, x_upR_o, x_zM_p, x_zR_p, x_set_p, x_set_s, tb_CM, tb_SM, xm_cats, xm_cat, List.length_cons, List.length_nil, x_cmp_ge, x_cmp_le, x_cmp_gt, x_cmp_lt, x_cmp_eq, not_true_eq_false, not_false_eq_true, true_and, and_true, Int.add_zero, Int.zero_add, Int.cast_ofNat_Int, Int.sub_zero, hz6, hw]
  first | exact hQ | (rw [x_upR_s (by omega)]; exact hQ)
end
/-- what take leaves as it was -/
def fK (e : Nat) (M M' : Nat → Int → Int) : Prop := (∀ p, p ≠ 8 → p < e + 174 → M' p = M p) ∧ ∀ j, j ≠ 6 → M' 8 j = M 8 j
def rK (R R' : Nat → Int → Option Nat) : Prop := ∀ x i, x = 8 ∨ x = 10 ∨ x = 36 → R' x i = R x i
section
variable {ρ : Nat → Option xk} {e sl d : Nat} {M : Nat → Int → Int} {R : Nat → Int → Option Nat} {eX : Nat → Nat × (Nat → Int32)} {Q : xK}
variable {ow : Nat → Int}
theorem kHp_new {n : Int} {R' : Nat → Int → Option Nat} {ρ' : Nat → Option xk} {ow' : Nat → Int} {sl' : Nat} (hH : kHp ρ e R ow) (hg : kG ρ e R sl ow ρ' (e + 2) R' sl' ow') (hR : ∀ x i, x < e + 174 → (x ≠ 33 ∨ i ≠ n) → R' x i = R x i) (hn : R' 33 n = some (e + 175)) (hc : c_E ρ' R' (e + 174)) (ho : ow' (e + 174) = n ∧ ow' (e + 175) = n) : kHp ρ' (e + 2) R' ow' := by
  obtain ⟨h1, h2, h3⟩ := hH
  have og := hg.2.2.2.1
  refine ⟨fun k k0 k1 => ?_, fun i i0 i1 => ?_, fun i hi => ?_⟩
  · by_cases hk : k = n
    · subst hk
      exact .inr ⟨e + 174, hn, hc, ho, by omega⟩
    · rcases h1 k k0 k1 with h | ⟨x, x1, x2, x3, x4⟩
      · exact .inl (by rw [hR 33 k (by omega) (.inr hk)]; exact h)
      · exact .inr ⟨x, by rw [hR 33 k (by omega) (.inr hk)]; exact x1, c_E_g x2 hg x4, ⟨by rw [og x (by omega)]; exact x3.1, by rw [og (x + 1) (by omega)]; exact x3.2⟩, by omega⟩
  · rcases h2 i i0 i1 with h | ⟨y, y1, y2, y3, y4, y5⟩
    · exact .inl (by rw [hR 34 i (by omega) (by omega)]; exact h)
    · refine .inr ⟨y, by rw [hR 34 i (by omega) (by omega)]; exact y1, c_S_g y2 hg y3, by omega, fun z z0 z1 => by rw [og z (by omega)]; exact y4 z z0 z1, fun j j0 j1 => ?_⟩
      rcases y5 j j0 j1 with h | ⟨x, x1, x2, x3, x4⟩
      · exact .inl (by rw [hR (y + 4) j (by omega) (by omega)]; exact h)
      · exact .inr ⟨x, by rw [hR (y + 4) j (by omega) (by omega)]; exact x1, c_E_g x2 hg x4, ⟨by rw [og x (by omega)]; exact x3.1, by rw [og (x + 1) (by omega)]; exact x3.2⟩, by omega⟩
  · rw [hR 16 i (by omega) (by omega)]
    exact h3 i hi
set_option linter.unusedSimpArgs false in
set_option maxRecDepth 100000 in
set_option maxHeartbeats 4000000 in
theorem n_265 (hE : ∀ j, (eX j).1 ≤ 1000000) {n t : Int} (hn : M 8 6 = n) (hn1 : 0 ≤ n ∧ n < 300) (hH : kHp ρ e R ow) (hr : rm t (ρ, e, M, R, sl)) (ht : 0 ≤ t) (hQ : ∀ ρ' e' M' R' sl' ow' x, kG ρ e R sl ow ρ' e' R' sl' ow' → kHp ρ' e' R' ow' → R' 33 n = some (x + 1) → c_E ρ' R' x → (ow' x = n ∧ ow' (x + 1) = n) → x + 2 ≤ e' + 174 → fK e M M' → M' 8 6 = n + 1 → (∀ y i, y < e + 174 → y ≠ 33 → R' y i = R y i) → Q (.inl (some (.inr (.inr (some (x + 1)))))) (ρ', e', M', R', sl')) : xm_call tb_P eX tb_K0 174 (d + 3) 265 [.inr (.inr (some 9))] (ρ, e, M, R, sl) Q := by
  have hroom := rm_in2 hr ht
  rcases hH.1 n hn1.1 hn1.2 with h | ⟨x, x1, x2, x3, x4⟩
  · refine n_265b hE hn hn1 h (by omega) ?_
    have hd : ∀ x i, x < e + 174 → (x ≠ 33 ∨ i ≠ n) → x_upR (x_upR (x_zR (x_zR R (e + 174)) (e + 1 + 174)) (e + 174) 0 (some (e + 1 + 175))) 33 n (some (e + 175)) x i = R x i := fun x i hx hi => by
      by_cases h33 : x = 33
      · subst h33
        rw [x_upR_o (by omega), x_upR_p (by omega), x_zR_p (by omega), x_zR_p (by omega)]
      · rw [x_upR_p h33, x_upR_p (by omega), x_zR_p (by omega), x_zR_p (by omega)]
    have hg : kG ρ e R sl ow (x_new (x_new ρ e (.inr (4, [(3, 0, 0), (0, 0, 1)]))) (e + 1) (.inl (1, 26))) (e + 2) (x_upR (x_upR (x_zR (x_zR R (e + 174)) (e + 1 + 174)) (e + 174) 0 (some (e + 1 + 175))) 33 n (some (e + 175))) (sl + 28) (fun x => if x = e + 174 ∨ x = e + 175 then n else ow x) := by
      refine ⟨fun i hi => by unfold x_new; rw [if_neg (by omega), if_neg (by omega)], by omega, fun x i p c1 c2 c3 c4 c5 => ?_, fun x hx => if_neg (by omega), fun t M M' hh => rm_p hh hn1 h (x_upR_s rfl) hd⟩
      rw [hd x i c4 ?_]
      · exact c5
      · by_cases h33 : x = 33
        · right
          intro hi
          rw [h33, hi, h] at c5
          cases c5
        · exact .inl h33
    refine hQ _ _ _ _ _ _ (e + 174) hg (kHp_new hH hg hd (x_upR_s rfl) c_E_new ⟨if_pos (.inl rfl), if_pos (.inr rfl)⟩) (x_upR_s rfl) c_E_new ⟨if_pos (.inl rfl), if_pos (.inr rfl)⟩ (by omega) ⟨fun p p1 p2 => ?_, fun j hj => ?_⟩ (x_up_s rfl) (fun y i hy h33 => hd y i hy (.inl h33))
    · funext i
      rw [x_up_p p1, x_up_p (by omega), x_zM_p (by omega), x_zM_p (by omega)]
    · rw [x_up_o hj, x_up_p (by omega), x_zM_p (by omega), x_zM_p (by omega)]
  · refine n_265a hE hn hn1 x1 ?_
    exact hQ _ _ _ _ _ ow x kG_rf hH x1 x2 x3 x4 ⟨fun p p1 _ => x_up_ne p1, fun j hj => x_up_o hj⟩ (x_up_s rfl) (fun _ _ _ _ => rfl)
end

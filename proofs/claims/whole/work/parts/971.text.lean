/-! THE TEXT: what type does to it, on both sides -/
/-- the byte of a number at a shift -/
def t_b (z s : Int) : Int := x_and (x_shr z s) 255
theorem t_b_in (z s : Int) : 0 ≤ t_b z s ∧ t_b z s ≤ 255 := by
  exact q_255 (Int32.ofInt (x_shr z s))
theorem t_bu {z s : Int} (h : s = 24 ∨ s = 16 ∨ s = 8 ∨ s = 0) : x_and (x_ushr z s) 255 = t_b z s := by
  unfold t_b x_and x_ushr x_shr
  rw [i32_back, i32_back]
  have h4 : (Int32.ofInt s) = 24 ∨ (Int32.ofInt s) = 16 ∨ (Int32.ofInt s) = 8 ∨ (Int32.ofInt s) = 0 := by
    rcases h with rfl | rfl | rfl | rfl
    · exact .inl rfl
    · exact .inr (.inl rfl)
    · exact .inr (.inr (.inl rfl))
    · exact .inr (.inr (.inr rfl))
  have := q_sh (Int32.ofInt z) (Int32.ofInt s) h4
  exact congrArg Int32.toInt this
theorem t_c {x : Int} (h : 0 ≤ x ∧ x ≤ 65535) : x_i2c x = x := by
  obtain ⟨n, rfl⟩ : ∃ n : Nat, x = (n : Int) := ⟨x.toNat, by omega⟩
  unfold x_i2c
  have e : ((Int32.ofNat n).toUInt32 % 65536).toInt32 = Int32.ofNat n := by
    apply Int32.toBitVec_inj.mp
    apply BitVec.eq_of_toNat_eq
    simp
    omega
  show (((Int32.ofNat n).toUInt32 % 65536).toInt32).toInt = (n : Int)
  rw [e, show Int32.ofNat n = Int32.ofInt (n : Int) from rfl, i32_to ⟨by omega, by omega⟩]
/-- how many bytes are not 0 in the first t ones from below -/
def t_n (z : Int) : Nat → Int
  | 0 => 0
  | t + 1 => t_n z t + (if t_b z (8 * t) = 0 then 0 else 1)
theorem t_n_in (z : Int) : ∀ t : Nat, 0 ≤ t_n z t ∧ t_n z t ≤ t
  | 0 => ⟨Int.le_refl 0, Int.le_refl 0⟩
  | t + 1 => by
    have := t_n_in z t
    unfold t_n
    split <;> omega
/-- one byte more: the class's way, the reference's way -/
def t_1 (b : Int) (q : (Int → Int) × Int) : (Int → Int) × Int := if b ≠ 0 ∧ q.2 < 480 then (fun j => if j = q.2 then b else q.1 j, q.2 + 1) else q
def t_2 (b : Int) (q : (Int → Int) × Int) : (Int → Int) × Int := if b ≠ 0 then (if q.2 < 480 then (fun j => if j = q.2 then b else q.1 j) else q.1, q.2 + 1) else q
def t_a (z : Int) : Nat → (Int → Int) × Int → (Int → Int) × Int
  | 0, q => q
  | t + 1, q => t_a z t (t_1 (t_b z (8 * t)) q)
def t_r (z : Int) : Nat → (Int → Int) × Int → (Int → Int) × Int
  | 0, q => q
  | t + 1, q => t_r z t (t_2 (t_b z (8 * t)) q)
theorem t_r_n (z : Int) : ∀ (t : Nat) (q : (Int → Int) × Int), (t_r z t q).2 = q.2 + t_n z t
  | 0, q => by show q.2 = q.2 + 0; omega
  | t + 1, q => by
    show (t_r z t (t_2 (t_b z (8 * t)) q)).2 = q.2 + (t_n z t + (if t_b z (8 * t) = 0 then 0 else 1))
    rw [t_r_n z t]
    unfold t_2
    by_cases h : t_b z (8 * t) = 0
    · rw [if_pos h, if_neg (fun h' => h' h)]
      omega
    · rw [if_neg h, if_pos h]
      dsimp only
      omega
theorem t_ar (z : Int) : ∀ (t : Nat) (q : (Int → Int) × Int), q.2 + t_n z t ≤ 480 → t_a z t q = t_r z t q
  | 0, q, _ => rfl
  | t + 1, q, h => by
    show t_a z t (t_1 (t_b z (8 * t)) q) = t_r z t (t_2 (t_b z (8 * t)) q)
    unfold t_n at h
    have h0 := t_n_in z t
    have e : t_1 (t_b z (8 * t)) q = t_2 (t_b z (8 * t)) q := by
      unfold t_1 t_2
      by_cases hb : t_b z (8 * t) = 0
      · rw [if_neg (fun h' => h'.1 hb), if_neg (fun h' => h' hb)]
      · rw [if_neg hb] at h
        rw [if_pos ⟨hb, by omega⟩, if_pos hb, if_pos (by omega)]
    rw [e]
    refine t_ar z t _ ?_
    unfold t_2
    by_cases hb : t_b z (8 * t) = 0
    · rw [if_neg (fun h' => h' hb)]
      rw [if_pos hb] at h
      omega
    · rw [if_pos hb]
      rw [if_neg hb] at h
      dsimp only
      omega
theorem t_a_n (z : Int) (t : Nat) (q : (Int → Int) × Int) (h : q.2 + t_n z t ≤ 480) : (t_a z t q).2 = q.2 + t_n z t := by rw [t_ar z t q h, t_r_n]
/-- what holds of a text -/
def t_ok (q : (Int → Int) × Int) : Prop := 0 ≤ q.2 ∧ ∀ j, 0 ≤ j → j < q.2 → j < 480 → 1 ≤ q.1 j ∧ q.1 j ≤ 255
theorem t_2_ok {z s : Int} {q : (Int → Int) × Int} (h : t_ok q) : t_ok (t_2 (t_b z s) q) := by
  have hb := t_b_in z s
  unfold t_2
  by_cases h0 : t_b z s = 0
  · rw [if_neg (fun h' => h' h0)]
    exact h
  · rw [if_pos h0]
    refine ⟨by have := h.1; dsimp only; omega, fun j h1 h2 h3 => ?_⟩
    dsimp only at h2 ⊢
    by_cases hq : q.2 < 480
    · rw [if_pos hq]
      by_cases hj : j = q.2
      · rw [if_pos hj]
        omega
      · rw [if_neg hj]
        exact h.2 j h1 (by omega) h3
    · rw [if_neg hq]
      exact h.2 j h1 (by omega) h3
theorem t_r_ok (z : Int) : ∀ (t : Nat) (q : (Int → Int) × Int), t_ok q → t_ok (t_r z t q)
  | 0, q, h => h
  | t + 1, q, h => t_r_ok z t _ (t_2_ok h)
theorem t_r_old (z : Int) : ∀ (t : Nat) (q : (Int → Int) × Int) (j : Int), j < q.2 → (t_r z t q).1 j = q.1 j
  | 0, q, j, _ => rfl
  | t + 1, q, j, h => by
    show (t_r z t (t_2 (t_b z (8 * t)) q)).1 j = q.1 j
    have h2 : j < (t_2 (t_b z (8 * t)) q).2 := by
      unfold t_2
      split
      · dsimp only
        omega
      · exact h
    rw [t_r_old z t _ j h2]
    unfold t_2
    split
    · dsimp only
      split
      · dsimp only
        rw [if_neg (by omega)]
      · rfl
    · rfl
section
variable {ρ : Nat → Option xk} {e sl d : Nat} {M : Nat → Int → Int} {R : Nat → Int → Option Nat} {eX : Nat → Nat × (Nat → Int32)} {Q : xK}
set_option linter.unusedSimpArgs false in
set_option maxRecDepth 100000 in
set_option maxHeartbeats 4000000 in
theorem c_168 (hE : ∀ j, (eX j).1 ≤ 1000000) {z : Int} (hQ : Q (.inl (some (.inl (t_n z 4)))) (ρ, e, M, R, sl)) : xm_call tb_P eX tb_K0 174 (d + 1) 168 [.inl z] (ρ, e, M, R, sl) Q := by
  have lp : ∀ (t : Nat) (c : Int), t ≤ 4 → 0 ≤ c → c ≤ 4 - (t : Int) → c + t_n z t = t_n z 4 → xm_J tb_P eX tb_K0 174 d 168 Q 5 [(0, .inl z), (1, .inl c), (2, .inl (8 * (t : Int) - 8))] [] (ρ, e, M, R, sl) := by
    intro t
    induction t with
    | zero =>
      intro c h4 h0 h1 h
      refine xm_on hE (fun k pc => if Nat.beq k 168 && Nat.beq pc 5 then some [0, 1, 2] else none) (fun _ => false) (fun F C hF hC => ?_)
      (conv => whnf)
      repeat (first | (refine br_t (by first | omega | (simp (disch := omega) only [w32_id, w64_id, x_up_p, x_up_s, x_up_o, x_fill_p, x_fill_i, x_fill_o, x_cpy_p, x_cpy_i, x_cpy_o, x_upR_p, x_upR_s, x_upR_o, x_zM_p, x_zR_p, x_set_p, x_set_s, x_cmp_ge, x_cmp_le, x_cmp_gt, x_cmp_lt, x_cmp_eq, not_true_eq_false, not_false_eq_true, true_and, and_true, Int.add_zero, Int.zero_add, Int.cast_ofNat_Int, Int.sub_zero] <;> omega) | (simp (disch := omega) only [w32_id, w64_id, x_up_p, x_up_s, x_up_o, x_fill_p, x_fill_i, x_fill_o, x_cpy_p, x_cpy_i, x_cpy_o, x_upR_p, x_upR_s, x_upR_o, x_zM_p, x_zR_p, x_set_p, x_set_s, x_cmp_ge, x_cmp_le, x_cmp_gt, x_cmp_lt, x_cmp_eq, not_true_eq_false, not_false_eq_true, true_and, and_true, Int.add_zero, Int.zero_add, Int.cast_ofNat_Int, Int.sub_zero]; done) | decide | fail) ?_; (conv => whnf)) | (refine br_f (by first | omega | (simp (disch := omega) only [w32_id, w64_id, x_up_p, x_up_s, x_up_o, x_fill_p, x_fill_i, x_fill_o, x_cpy_p, x_cpy_i, x_cpy_o, x_upR_p, x_upR_s, x_upR_o, x_zM_p, x_zR_p, x_set_p, x_set_s, x_cmp_ge, x_cmp_le, x_cmp_gt, x_cmp_lt, x_cmp_eq, not_true_eq_false, not_false_eq_true, true_and, and_true, Int.add_zero, Int.zero_add, Int.cast_ofNat_Int, Int.sub_zero] <;> omega) | (simp (disch := omega) only [w32_id, w64_id, x_up_p, x_up_s, x_up_o, x_fill_p, x_fill_i, x_fill_o, x_cpy_p, x_cpy_i, x_cpy_o, x_upR_p, x_upR_s, x_upR_o, x_zM_p, x_zR_p, x_set_p, x_set_s, x_cmp_ge, x_cmp_le, x_cmp_gt, x_cmp_lt, x_cmp_eq, not_true_eq_false, not_false_eq_true, true_and, and_true, Int.add_zero, Int.zero_add, Int.cast_ofNat_Int, Int.sub_zero]; done) | decide | fail) ?_; (conv => whnf)) | (refine And.intro (by first | omega | (simp (disch := omega) only [w32_id, w64_id, x_up_p, x_up_s, x_up_o, x_fill_p, x_fill_i, x_fill_o, x_cpy_p, x_cpy_i, x_cpy_o, x_upR_p, x_upR_s, x_upR_o, x_zM_p, x_zR_p, x_set_p, x_set_s, x_cmp_ge, x_cmp_le, x_cmp_gt, x_cmp_lt, x_cmp_eq, not_true_eq_false, not_false_eq_true, true_and, and_true, Int.add_zero, Int.zero_add, Int.cast_ofNat_Int, Int.sub_zero] <;> omega) | (simp (disch := omega) only [w32_id, w64_id, x_up_p, x_up_s, x_up_o, x_fill_p, x_fill_i, x_fill_o, x_cpy_p, x_cpy_i, x_cpy_o, x_upR_p, x_upR_s, x_upR_o, x_zM_p, x_zR_p, x_set_p, x_set_s, x_cmp_ge, x_cmp_le, x_cmp_gt, x_cmp_lt, x_cmp_eq, not_true_eq_false, not_false_eq_true, true_and, and_true, Int.add_zero, Int.zero_add, Int.cast_ofNat_Int, Int.sub_zero]; done) | decide | fail) ?_; (conv => whnf)))
      have hc : c = t_n z 4 := by have : t_n z 0 = 0 := rfl; omega
      rw [hc]
      exact hQ
    | succ t ih =>
      intro c h4 h0 h1 h
      have e1 : (8 * ((t + 1 : Nat) : Int) - 8) = 8 * (t : Int) := by omega
      have hs : (8 * (t : Int)) = 24 ∨ (8 * (t : Int)) = 16 ∨ (8 * (t : Int)) = 8 ∨ (8 * (t : Int)) = 0 := by omega
      rw [e1]
      have hu : t_n z (t + 1) = t_n z t + (if t_b z (8 * t) = 0 then 0 else 1) := rfl
      refine xm_on hE (fun k pc => if Nat.beq k 168 && Nat.beq pc 5 then some [0, 1, 2] else none) (fun _ => false) (fun F C hF hC => ?_)
      (conv => whnf)
      refine br_f (by omega) ?_
      (conv => whnf)
      rw [t_bu hs]
      by_cases hb : t_b z (8 * (t : Int)) = 0
      · refine br_t hb ?_
        (conv => whnf)
        refine hF _ _ _ _ _ _ _ ?_
        simp (disch := omega) only [w32_id, w64_id, x_up_p, x_up_s, x_up_o, x_fill_p, x_fill_i, x_fill_o, x_cpy_p, x_cpy_i, x_cpy_o, x_upR_p, x_upR_s, x_upR_o, x_zM_p, x_zR_p, x_set_p, x_set_s, x_cmp_ge, x_cmp_le, x_cmp_gt, x_cmp_lt, x_cmp_eq, not_true_eq_false, not_false_eq_true, true_and, and_true, Int.add_zero, Int.zero_add, Int.cast_ofNat_Int, Int.sub_zero]
        rw [if_pos hb] at hu
        rw [show 8 * (t : Int) + -8 = 8 * (t : Int) - 8 by omega]
        exact ih c (by omega) h0 (by omega) (by omega)
      · refine br_f hb ?_
        (conv => whnf)
        refine hF _ _ _ _ _ _ _ ?_
        simp (disch := omega) only [w32_id, w64_id, x_up_p, x_up_s, x_up_o, x_fill_p, x_fill_i, x_fill_o, x_cpy_p, x_cpy_i, x_cpy_o, x_upR_p, x_upR_s, x_upR_o, x_zM_p, x_zR_p, x_set_p, x_set_s, x_cmp_ge, x_cmp_le, x_cmp_gt, x_cmp_lt, x_cmp_eq, not_true_eq_false, not_false_eq_true, true_and, and_true, Int.add_zero, Int.zero_add, Int.cast_ofNat_Int, Int.sub_zero]
        rw [if_neg hb] at hu
        rw [show 8 * (t : Int) + -8 = 8 * (t : Int) - 8 by omega]
        exact ih (c + 1) (by omega) (by omega) (by omega) (by omega)
  refine xm_run hE (fun k pc => if Nat.beq k 168 && Nat.beq pc 5 then some [0, 1, 2] else none) (fun _ => false) (fun F C hF hC => ?_)
  (conv => whnf)
  refine hF _ _ _ _ _ _ _ ?_
  exact lp 4 0 (by omega) (by omega) (by omega) (by omega)
set_option linter.unusedSimpArgs false in
set_option maxRecDepth 100000 in
set_option maxHeartbeats 4000000 in
theorem c_200 (hE : ∀ j, (eX j).1 ≤ 1000000) {z : Int} (h0 : 0 ≤ M 1 1) (hQ : ∀ M' : Nat → Int → Int, (∀ p, p ≠ 1 → p ≠ 2 → M' p = M p) → (∀ j, j ≠ 1 → M' 1 j = M 1 j) → (M' 2, M' 1 1) = t_a z 4 (M 2, M 1 1) → Q (.inl none) (ρ, e, M', R, sl)) : xm_call tb_P eX tb_K0 174 (d + 1) 200 [.inr (.inr (some 2)), .inl z] (ρ, e, M, R, sl) Q := by
  have lp : ∀ (t : Nat) (M : Nat → Int → Int), t ≤ 4 → 0 ≤ M 1 1 → (∀ M' : Nat → Int → Int, (∀ p, p ≠ 1 → p ≠ 2 → M' p = M p) → (∀ j, j ≠ 1 → M' 1 j = M 1 j) → (M' 2, M' 1 1) = t_a z t (M 2, M 1 1) → Q (.inl none) (ρ, e, M', R, sl)) → xm_J tb_P eX tb_K0 174 d 200 Q 3 [(0, .inr (.inr (some 2))), (1, .inl z), (2, .inl (8 * (t : Int) - 8))] [] (ρ, e, M, R, sl) := by
    intro t
    induction t with
    | zero =>
      intro M h4 h0 hQ
      refine xm_on hE (fun k pc => if Nat.beq k 200 && Nat.beq pc 3 then some [0, 1, 2] else none) (fun _ => false) (fun F C hF hC => ?_)
      (conv => whnf)
      repeat (first | (refine br_t (by first | omega | (simp (disch := omega) only [w32_id, w64_id, x_up_p, x_up_s, x_up_o, x_fill_p, x_fill_i, x_fill_o, x_cpy_p, x_cpy_i, x_cpy_o, x_upR_p, x_upR_s, x_upR_o, x_zM_p, x_zR_p, x_set_p, x_set_s, x_cmp_ge, x_cmp_le, x_cmp_gt, x_cmp_lt, x_cmp_eq, not_true_eq_false, not_false_eq_true, true_and, and_true, Int.add_zero, Int.zero_add, Int.cast_ofNat_Int, Int.sub_zero] <;> omega) | (simp (disch := omega) only [w32_id, w64_id, x_up_p, x_up_s, x_up_o, x_fill_p, x_fill_i, x_fill_o, x_cpy_p, x_cpy_i, x_cpy_o, x_upR_p, x_upR_s, x_upR_o, x_zM_p, x_zR_p, x_set_p, x_set_s, x_cmp_ge, x_cmp_le, x_cmp_gt, x_cmp_lt, x_cmp_eq, not_true_eq_false, not_false_eq_true, true_and, and_true, Int.add_zero, Int.zero_add, Int.cast_ofNat_Int, Int.sub_zero]; done) | decide | fail) ?_; (conv => whnf)) | (refine br_f (by first | omega | (simp (disch := omega) only [w32_id, w64_id, x_up_p, x_up_s, x_up_o, x_fill_p, x_fill_i, x_fill_o, x_cpy_p, x_cpy_i, x_cpy_o, x_upR_p, x_upR_s, x_upR_o, x_zM_p, x_zR_p, x_set_p, x_set_s, x_cmp_ge, x_cmp_le, x_cmp_gt, x_cmp_lt, x_cmp_eq, not_true_eq_false, not_false_eq_true, true_and, and_true, Int.add_zero, Int.zero_add, Int.cast_ofNat_Int, Int.sub_zero] <;> omega) | (simp (disch := omega) only [w32_id, w64_id, x_up_p, x_up_s, x_up_o, x_fill_p, x_fill_i, x_fill_o, x_cpy_p, x_cpy_i, x_cpy_o, x_upR_p, x_upR_s, x_upR_o, x_zM_p, x_zR_p, x_set_p, x_set_s, x_cmp_ge, x_cmp_le, x_cmp_gt, x_cmp_lt, x_cmp_eq, not_true_eq_false, not_false_eq_true, true_and, and_true, Int.add_zero, Int.zero_add, Int.cast_ofNat_Int, Int.sub_zero]; done) | decide | fail) ?_; (conv => whnf)) | (refine And.intro (by first | omega | (simp (disch := omega) only [w32_id, w64_id, x_up_p, x_up_s, x_up_o, x_fill_p, x_fill_i, x_fill_o, x_cpy_p, x_cpy_i, x_cpy_o, x_upR_p, x_upR_s, x_upR_o, x_zM_p, x_zR_p, x_set_p, x_set_s, x_cmp_ge, x_cmp_le, x_cmp_gt, x_cmp_lt, x_cmp_eq, not_true_eq_false, not_false_eq_true, true_and, and_true, Int.add_zero, Int.zero_add, Int.cast_ofNat_Int, Int.sub_zero] <;> omega) | (simp (disch := omega) only [w32_id, w64_id, x_up_p, x_up_s, x_up_o, x_fill_p, x_fill_i, x_fill_o, x_cpy_p, x_cpy_i, x_cpy_o, x_upR_p, x_upR_s, x_upR_o, x_zM_p, x_zR_p, x_set_p, x_set_s, x_cmp_ge, x_cmp_le, x_cmp_gt, x_cmp_lt, x_cmp_eq, not_true_eq_false, not_false_eq_true, true_and, and_true, Int.add_zero, Int.zero_add, Int.cast_ofNat_Int, Int.sub_zero]; done) | decide | fail) ?_; (conv => whnf)))
      exact hQ M (fun _ _ _ => rfl) (fun _ _ => rfl) rfl
    | succ t ih =>
      intro M h4 h0 hQ
      have e1 : (8 * ((t + 1 : Nat) : Int) - 8) = 8 * (t : Int) := by omega
      have hs : (8 * (t : Int)) = 24 ∨ (8 * (t : Int)) = 16 ∨ (8 * (t : Int)) = 8 ∨ (8 * (t : Int)) = 0 := by omega
      have hb := t_b_in z (8 * (t : Int))
      rw [e1]
      refine xm_on hE (fun k pc => if Nat.beq k 200 && Nat.beq pc 3 then some [0, 1, 2] else none) (fun _ => false) (fun F C hF hC => ?_)
      (conv => whnf)
      refine br_f (by first | omega | (simp (disch := omega) only [w32_id, w64_id, x_up_p, x_up_s, x_up_o, x_fill_p, x_fill_i, x_fill_o, x_cpy_p, x_cpy_i, x_cpy_o, x_upR_p, x_upR_s, x_upR_o, x_zM_p, x_zR_p, x_set_p, x_set_s, x_cmp_ge, x_cmp_le, x_cmp_gt, x_cmp_lt, x_cmp_eq, not_true_eq_false, not_false_eq_true, true_and, and_true, Int.add_zero, Int.zero_add, Int.cast_ofNat_Int, Int.sub_zero] <;> omega) | (simp (disch := omega) only [w32_id, w64_id, x_up_p, x_up_s, x_up_o, x_fill_p, x_fill_i, x_fill_o, x_cpy_p, x_cpy_i, x_cpy_o, x_upR_p, x_upR_s, x_upR_o, x_zM_p, x_zR_p, x_set_p, x_set_s, x_cmp_ge, x_cmp_le, x_cmp_gt, x_cmp_lt, x_cmp_eq, not_true_eq_false, not_false_eq_true, true_and, and_true, Int.add_zero, Int.zero_add, Int.cast_ofNat_Int, Int.sub_zero]; done) | decide | fail) ?_
      (conv => whnf)
      rw [t_bu hs]
      by_cases hb0 : t_b z (8 * (t : Int)) = 0
      · refine br_t hb0 ?_
        (conv => whnf)
        refine hF _ _ _ _ _ _ _ ?_
        simp (disch := omega) only [w32_id, w64_id, x_up_p, x_up_s, x_up_o, x_fill_p, x_fill_i, x_fill_o, x_cpy_p, x_cpy_i, x_cpy_o, x_upR_p, x_upR_s, x_upR_o, x_zM_p, x_zR_p, x_set_p, x_set_s, x_cmp_ge, x_cmp_le, x_cmp_gt, x_cmp_lt, x_cmp_eq, not_true_eq_false, not_false_eq_true, true_and, and_true, Int.add_zero, Int.zero_add, Int.cast_ofNat_Int, Int.sub_zero]
        rw [show 8 * (t : Int) + -8 = 8 * (t : Int) - 8 by omega]
        refine ih M (by omega) h0 (fun M' a b c => hQ M' a b ?_)
        rw [c]
        show _ = t_a z t (t_1 (t_b z (8 * t)) (M 2, M 1 1))
        unfold t_1
        rw [if_neg (fun h' => h'.1 hb0)]
      · refine br_f hb0 ?_
        (conv => whnf)
        refine br_f (by first | omega | (simp (disch := omega) only [w32_id, w64_id, x_up_p, x_up_s, x_up_o, x_fill_p, x_fill_i, x_fill_o, x_cpy_p, x_cpy_i, x_cpy_o, x_upR_p, x_upR_s, x_upR_o, x_zM_p, x_zR_p, x_set_p, x_set_s, x_cmp_ge, x_cmp_le, x_cmp_gt, x_cmp_lt, x_cmp_eq, not_true_eq_false, not_false_eq_true, true_and, and_true, Int.add_zero, Int.zero_add, Int.cast_ofNat_Int, Int.sub_zero] <;> omega) | (simp (disch := omega) only [w32_id, w64_id, x_up_p, x_up_s, x_up_o, x_fill_p, x_fill_i, x_fill_o, x_cpy_p, x_cpy_i, x_cpy_o, x_upR_p, x_upR_s, x_upR_o, x_zM_p, x_zR_p, x_set_p, x_set_s, x_cmp_ge, x_cmp_le, x_cmp_gt, x_cmp_lt, x_cmp_eq, not_true_eq_false, not_false_eq_true, true_and, and_true, Int.add_zero, Int.zero_add, Int.cast_ofNat_Int, Int.sub_zero]; done) | decide | fail) ?_
        (conv => whnf)
        by_cases hn : M 1 1 < 480
        · refine br_f (by first | omega | (simp (disch := omega) only [w32_id, w64_id, x_up_p, x_up_s, x_up_o, x_fill_p, x_fill_i, x_fill_o, x_cpy_p, x_cpy_i, x_cpy_o, x_upR_p, x_upR_s, x_upR_o, x_zM_p, x_zR_p, x_set_p, x_set_s, x_cmp_ge, x_cmp_le, x_cmp_gt, x_cmp_lt, x_cmp_eq, not_true_eq_false, not_false_eq_true, true_and, and_true, Int.add_zero, Int.zero_add, Int.cast_ofNat_Int, Int.sub_zero] <;> omega) | (simp (disch := omega) only [w32_id, w64_id, x_up_p, x_up_s, x_up_o, x_fill_p, x_fill_i, x_fill_o, x_cpy_p, x_cpy_i, x_cpy_o, x_upR_p, x_upR_s, x_upR_o, x_zM_p, x_zR_p, x_set_p, x_set_s, x_cmp_ge, x_cmp_le, x_cmp_gt, x_cmp_lt, x_cmp_eq, not_true_eq_false, not_false_eq_true, true_and, and_true, Int.add_zero, Int.zero_add, Int.cast_ofNat_Int, Int.sub_zero]; done) | decide | fail) ?_
          (conv => whnf)
          refine And.intro (by first | omega | (simp (disch := omega) only [w32_id, w64_id, x_up_p, x_up_s, x_up_o, x_fill_p, x_fill_i, x_fill_o, x_cpy_p, x_cpy_i, x_cpy_o, x_upR_p, x_upR_s, x_upR_o, x_zM_p, x_zR_p, x_set_p, x_set_s, x_cmp_ge, x_cmp_le, x_cmp_gt, x_cmp_lt, x_cmp_eq, not_true_eq_false, not_false_eq_true, true_and, and_true, Int.add_zero, Int.zero_add, Int.cast_ofNat_Int, Int.sub_zero] <;> omega) | (simp (disch := omega) only [w32_id, w64_id, x_up_p, x_up_s, x_up_o, x_fill_p, x_fill_i, x_fill_o, x_cpy_p, x_cpy_i, x_cpy_o, x_upR_p, x_upR_s, x_upR_o, x_zM_p, x_zR_p, x_set_p, x_set_s, x_cmp_ge, x_cmp_le, x_cmp_gt, x_cmp_lt, x_cmp_eq, not_true_eq_false, not_false_eq_true, true_and, and_true, Int.add_zero, Int.zero_add, Int.cast_ofNat_Int, Int.sub_zero]; done) | decide | fail) ?_
          (conv => whnf)
          refine hF _ _ _ _ _ _ _ ?_
          simp only [t_bu hs, t_c (x := t_b z (8 * (t : Int))) ⟨hb.1, by omega⟩, x_charN (x := t_b z (8 * (t : Int))) ⟨hb.1, by omega⟩]
          simp (disch := omega) only [w32_id, w64_id, x_up_p, x_up_s, x_up_o, x_fill_p, x_fill_i, x_fill_o, x_cpy_p, x_cpy_i, x_cpy_o, x_upR_p, x_upR_s, x_upR_o, x_zM_p, x_zR_p, x_set_p, x_set_s, x_cmp_ge, x_cmp_le, x_cmp_gt, x_cmp_lt, x_cmp_eq, not_true_eq_false, not_false_eq_true, true_and, and_true, Int.add_zero, Int.zero_add, Int.cast_ofNat_Int, Int.sub_zero]
          rw [show 8 * (t : Int) + -8 = 8 * (t : Int) - 8 by omega]
          refine ih _ (by omega) (by rw [x_up_s rfl]; omega) (fun M' a b c => hQ M' (fun p p1 p2 => ?_) (fun j hj => ?_) ?_)
          · rw [a p p1 p2, x_up_ne p1, x_up_ne p2]
          · rw [b j hj, x_up_o hj, x_up_p (by decide)]
          · rw [c]
            show _ = t_a z t (t_1 (t_b z (8 * t)) (M 2, M 1 1))
            congr 1
            unfold t_1
            rw [if_pos ⟨hb0, hn⟩, x_up_s rfl]
            refine Prod.ext ?_ rfl
            funext j
            dsimp only
            rw [x_up_p (by decide)]
            unfold x_up
            by_cases hj : j = M 1 1
            · rw [if_pos ⟨rfl, hj⟩, if_pos hj]
            · rw [if_neg (fun h' => hj h'.2), if_neg hj]
        · refine br_t (by first | omega | (simp (disch := omega) only [w32_id, w64_id, x_up_p, x_up_s, x_up_o, x_fill_p, x_fill_i, x_fill_o, x_cpy_p, x_cpy_i, x_cpy_o, x_upR_p, x_upR_s, x_upR_o, x_zM_p, x_zR_p, x_set_p, x_set_s, x_cmp_ge, x_cmp_le, x_cmp_gt, x_cmp_lt, x_cmp_eq, not_true_eq_false, not_false_eq_true, true_and, and_true, Int.add_zero, Int.zero_add, Int.cast_ofNat_Int, Int.sub_zero] <;> omega) | (simp (disch := omega) only [w32_id, w64_id, x_up_p, x_up_s, x_up_o, x_fill_p, x_fill_i, x_fill_o, x_cpy_p, x_cpy_i, x_cpy_o, x_upR_p, x_upR_s, x_upR_o, x_zM_p, x_zR_p, x_set_p, x_set_s, x_cmp_ge, x_cmp_le, x_cmp_gt, x_cmp_lt, x_cmp_eq, not_true_eq_false, not_false_eq_true, true_and, and_true, Int.add_zero, Int.zero_add, Int.cast_ofNat_Int, Int.sub_zero]; done) | decide | fail) ?_
          (conv => whnf)
          refine hF _ _ _ _ _ _ _ ?_
          simp (disch := omega) only [w32_id, w64_id, x_up_p, x_up_s, x_up_o, x_fill_p, x_fill_i, x_fill_o, x_cpy_p, x_cpy_i, x_cpy_o, x_upR_p, x_upR_s, x_upR_o, x_zM_p, x_zR_p, x_set_p, x_set_s, x_cmp_ge, x_cmp_le, x_cmp_gt, x_cmp_lt, x_cmp_eq, not_true_eq_false, not_false_eq_true, true_and, and_true, Int.add_zero, Int.zero_add, Int.cast_ofNat_Int, Int.sub_zero]
          rw [show 8 * (t : Int) + -8 = 8 * (t : Int) - 8 by omega]
          refine ih M (by omega) h0 (fun M' a b c => hQ M' a b ?_)
          rw [c]
          show _ = t_a z t (t_1 (t_b z (8 * t)) (M 2, M 1 1))
          unfold t_1
          rw [if_neg (fun h' => hn h'.2)]
  refine xm_run hE (fun k pc => if Nat.beq k 200 && Nat.beq pc 3 then some [0, 1, 2] else none) (fun _ => false) (fun F C hF hC => ?_)
  (conv => whnf)
  refine hF _ _ _ _ _ _ _ ?_
  exact lp 4 M (by omega) h0 hQ
set_option linter.unusedSimpArgs false in
set_option maxRecDepth 100000 in
set_option maxHeartbeats 4000000 in
theorem l_16 (hE : ∀ j, (eX j).1 ≤ 1000000) {z1 z2 z3 z4 z5 w z k : Int} (hk : 0 ≤ k ∧ k ≤ 4) : ∀ (t : Nat) (M : Nat → Int → Int), t ≤ 4 → 0 ≤ M 81 2 → M 81 2 + t ≤ 1000 → (∀ M' : Nat → Int → Int, (∀ p, p ≠ 81 → p ≠ 82 → M' p = M p) → (∀ j, j ≠ 2 → M' 81 j = M 81 j) → (M' 82, M' 81 2) = t_r z t (M 82, M 81 2) → xm_J tb_P eX tb_K0 174 (d + 1) 16 Q 9 [(0, .inr (.inr (some 82))), (1, .inl z1), (2, .inl z2), (3, .inl z3), (4, .inl z4), (5, .inl z5), (6, .inl w), (7, .inl (k + 1))] [] (ρ, e, M', R, sl)) → xm_J tb_P eX tb_K0 174 (d + 1) 16 Q 63 [(0, .inr (.inr (some 82))), (1, .inl z1), (2, .inl z2), (3, .inl z3), (4, .inl z4), (5, .inl z5), (6, .inl w), (7, .inl k), (8, .inl z), (9, .inl (8 * (t : Int) - 8))] [] (ρ, e, M, R, sl) := by
  intro t
  induction t with
  | zero =>
    intro M h4 h0 h1 hQ
    refine xm_on hE (fun k pc => if Nat.beq k 16 && Nat.beq pc 63 then some [0, 1, 2, 3, 4, 5, 6, 7, 8, 9] else if Nat.beq k 16 && Nat.beq pc 9 then some [0, 1, 2, 3, 4, 5, 6, 7] else none) (fun _ => false) (fun F C hF hC => ?_)
    (conv => whnf)
    repeat (first | (refine br_t (by first | omega | (simp (disch := omega) only [w32_id, w64_id, x_up_p, x_up_s, x_up_o, x_fill_p, x_fill_i, x_fill_o, x_cpy_p, x_cpy_i, x_cpy_o, x_upR_p, x_upR_s, x_upR_o, x_zM_p, x_zR_p, x_set_p, x_set_s, x_cmp_ge, x_cmp_le, x_cmp_gt, x_cmp_lt, x_cmp_eq, not_true_eq_false, not_false_eq_true, true_and, and_true, Int.add_zero, Int.zero_add, Int.cast_ofNat_Int, Int.sub_zero] <;> omega) | (simp (disch := omega) only [w32_id, w64_id, x_up_p, x_up_s, x_up_o, x_fill_p, x_fill_i, x_fill_o, x_cpy_p, x_cpy_i, x_cpy_o, x_upR_p, x_upR_s, x_upR_o, x_zM_p, x_zR_p, x_set_p, x_set_s, x_cmp_ge, x_cmp_le, x_cmp_gt, x_cmp_lt, x_cmp_eq, not_true_eq_false, not_false_eq_true, true_and, and_true, Int.add_zero, Int.zero_add, Int.cast_ofNat_Int, Int.sub_zero]; done) | decide | fail) ?_; (conv => whnf)) | (refine br_f (by first | omega | (simp (disch := omega) only [w32_id, w64_id, x_up_p, x_up_s, x_up_o, x_fill_p, x_fill_i, x_fill_o, x_cpy_p, x_cpy_i, x_cpy_o, x_upR_p, x_upR_s, x_upR_o, x_zM_p, x_zR_p, x_set_p, x_set_s, x_cmp_ge, x_cmp_le, x_cmp_gt, x_cmp_lt, x_cmp_eq, not_true_eq_false, not_false_eq_true, true_and, and_true, Int.add_zero, Int.zero_add, Int.cast_ofNat_Int, Int.sub_zero] <;> omega) | (simp (disch := omega) only [w32_id, w64_id, x_up_p, x_up_s, x_up_o, x_fill_p, x_fill_i, x_fill_o, x_cpy_p, x_cpy_i, x_cpy_o, x_upR_p, x_upR_s, x_upR_o, x_zM_p, x_zR_p, x_set_p, x_set_s, x_cmp_ge, x_cmp_le, x_cmp_gt, x_cmp_lt, x_cmp_eq, not_true_eq_false, not_false_eq_true, true_and, and_true, Int.add_zero, Int.zero_add, Int.cast_ofNat_Int, Int.sub_zero]; done) | decide | fail) ?_; (conv => whnf)) | (refine And.intro (by first | omega | (simp (disch := omega) only [w32_id, w64_id, x_up_p, x_up_s, x_up_o, x_fill_p, x_fill_i, x_fill_o, x_cpy_p, x_cpy_i, x_cpy_o, x_upR_p, x_upR_s, x_upR_o, x_zM_p, x_zR_p, x_set_p, x_set_s, x_cmp_ge, x_cmp_le, x_cmp_gt, x_cmp_lt, x_cmp_eq, not_true_eq_false, not_false_eq_true, true_and, and_true, Int.add_zero, Int.zero_add, Int.cast_ofNat_Int, Int.sub_zero] <;> omega) | (simp (disch := omega) only [w32_id, w64_id, x_up_p, x_up_s, x_up_o, x_fill_p, x_fill_i, x_fill_o, x_cpy_p, x_cpy_i, x_cpy_o, x_upR_p, x_upR_s, x_upR_o, x_zM_p, x_zR_p, x_set_p, x_set_s, x_cmp_ge, x_cmp_le, x_cmp_gt, x_cmp_lt, x_cmp_eq, not_true_eq_false, not_false_eq_true, true_and, and_true, Int.add_zero, Int.zero_add, Int.cast_ofNat_Int, Int.sub_zero]; done) | decide | fail) ?_; (conv => whnf)))
    refine hF _ _ _ _ _ _ _ ?_
    simp (disch := omega) only [w32_id, w64_id, x_up_p, x_up_s, x_up_o, x_fill_p, x_fill_i, x_fill_o, x_cpy_p, x_cpy_i, x_cpy_o, x_upR_p, x_upR_s, x_upR_o, x_zM_p, x_zR_p, x_set_p, x_set_s, x_cmp_ge, x_cmp_le, x_cmp_gt, x_cmp_lt, x_cmp_eq, not_true_eq_false, not_false_eq_true, true_and, and_true, Int.add_zero, Int.zero_add, Int.cast_ofNat_Int, Int.sub_zero]
    exact hQ M (fun _ _ _ => rfl) (fun _ _ => rfl) rfl
  | succ t ih =>
    intro M h4 h0 h1 hQ
    have e1 : (8 * ((t + 1 : Nat) : Int) - 8) = 8 * (t : Int) := by omega
    have hb := t_b_in z (8 * (t : Int))
    rw [e1]
    refine xm_on hE (fun k pc => if Nat.beq k 16 && Nat.beq pc 63 then some [0, 1, 2, 3, 4, 5, 6, 7, 8, 9] else if Nat.beq k 16 && Nat.beq pc 9 then some [0, 1, 2, 3, 4, 5, 6, 7] else none) (fun k => Nat.beq k 17) (fun F C hF hC => ?_)
    (conv => whnf)
    refine br_f (by first | omega | (simp (disch := omega) only [w32_id, w64_id, x_up_p, x_up_s, x_up_o, x_fill_p, x_fill_i, x_fill_o, x_cpy_p, x_cpy_i, x_cpy_o, x_upR_p, x_upR_s, x_upR_o, x_zM_p, x_zR_p, x_set_p, x_set_s, x_cmp_ge, x_cmp_le, x_cmp_gt, x_cmp_lt, x_cmp_eq, not_true_eq_false, not_false_eq_true, true_and, and_true, Int.add_zero, Int.zero_add, Int.cast_ofNat_Int, Int.sub_zero] <;> omega) | (simp (disch := omega) only [w32_id, w64_id, x_up_p, x_up_s, x_up_o, x_fill_p, x_fill_i, x_fill_o, x_cpy_p, x_cpy_i, x_cpy_o, x_upR_p, x_upR_s, x_upR_o, x_zM_p, x_zR_p, x_set_p, x_set_s, x_cmp_ge, x_cmp_le, x_cmp_gt, x_cmp_lt, x_cmp_eq, not_true_eq_false, not_false_eq_true, true_and, and_true, Int.add_zero, Int.zero_add, Int.cast_ofNat_Int, Int.sub_zero]; done) | decide | fail) ?_
    (conv => whnf)
    rw [show x_and (x_shr z (8 * (t : Int))) 255 = t_b z (8 * (t : Int)) from rfl]
    by_cases hb0 : t_b z (8 * (t : Int)) = 0
    · refine br_t (by first | omega | (simp (disch := omega) only [w32_id, w64_id, x_up_p, x_up_s, x_up_o, x_fill_p, x_fill_i, x_fill_o, x_cpy_p, x_cpy_i, x_cpy_o, x_upR_p, x_upR_s, x_upR_o, x_zM_p, x_zR_p, x_set_p, x_set_s, x_cmp_ge, x_cmp_le, x_cmp_gt, x_cmp_lt, x_cmp_eq, not_true_eq_false, not_false_eq_true, true_and, and_true, Int.add_zero, Int.zero_add, Int.cast_ofNat_Int, Int.sub_zero] <;> omega) | (simp (disch := omega) only [w32_id, w64_id, x_up_p, x_up_s, x_up_o, x_fill_p, x_fill_i, x_fill_o, x_cpy_p, x_cpy_i, x_cpy_o, x_upR_p, x_upR_s, x_upR_o, x_zM_p, x_zR_p, x_set_p, x_set_s, x_cmp_ge, x_cmp_le, x_cmp_gt, x_cmp_lt, x_cmp_eq, not_true_eq_false, not_false_eq_true, true_and, and_true, Int.add_zero, Int.zero_add, Int.cast_ofNat_Int, Int.sub_zero]; done) | decide | fail) ?_
      (conv => whnf)
      refine hF _ _ _ _ _ _ _ ?_
      simp (disch := omega) only [w32_id, w64_id, x_up_p, x_up_s, x_up_o, x_fill_p, x_fill_i, x_fill_o, x_cpy_p, x_cpy_i, x_cpy_o, x_upR_p, x_upR_s, x_upR_o, x_zM_p, x_zR_p, x_set_p, x_set_s, x_cmp_ge, x_cmp_le, x_cmp_gt, x_cmp_lt, x_cmp_eq, not_true_eq_false, not_false_eq_true, true_and, and_true, Int.add_zero, Int.zero_add, Int.cast_ofNat_Int, Int.sub_zero]
      refine ih M (by omega) h0 (by omega) (fun M' a b c => hQ M' a b ?_)
      rw [c]
      show _ = t_r z t (t_2 (t_b z (8 * t)) (M 82, M 81 2))
      unfold t_2
      rw [if_neg (fun h' => h' hb0)]
    · refine br_f (by first | omega | (simp (disch := omega) only [w32_id, w64_id, x_up_p, x_up_s, x_up_o, x_fill_p, x_fill_i, x_fill_o, x_cpy_p, x_cpy_i, x_cpy_o, x_upR_p, x_upR_s, x_upR_o, x_zM_p, x_zR_p, x_set_p, x_set_s, x_cmp_ge, x_cmp_le, x_cmp_gt, x_cmp_lt, x_cmp_eq, not_true_eq_false, not_false_eq_true, true_and, and_true, Int.add_zero, Int.zero_add, Int.cast_ofNat_Int, Int.sub_zero] <;> omega) | (simp (disch := omega) only [w32_id, w64_id, x_up_p, x_up_s, x_up_o, x_fill_p, x_fill_i, x_fill_o, x_cpy_p, x_cpy_i, x_cpy_o, x_upR_p, x_upR_s, x_upR_o, x_zM_p, x_zR_p, x_set_p, x_set_s, x_cmp_ge, x_cmp_le, x_cmp_gt, x_cmp_lt, x_cmp_eq, not_true_eq_false, not_false_eq_true, true_and, and_true, Int.add_zero, Int.zero_add, Int.cast_ofNat_Int, Int.sub_zero]; done) | decide | fail) ?_
      (conv => whnf)
      by_cases hn : M 81 2 < 480
      · refine br_f (by first | omega | (simp (disch := omega) only [w32_id, w64_id, x_up_p, x_up_s, x_up_o, x_fill_p, x_fill_i, x_fill_o, x_cpy_p, x_cpy_i, x_cpy_o, x_upR_p, x_upR_s, x_upR_o, x_zM_p, x_zR_p, x_set_p, x_set_s, x_cmp_ge, x_cmp_le, x_cmp_gt, x_cmp_lt, x_cmp_eq, not_true_eq_false, not_false_eq_true, true_and, and_true, Int.add_zero, Int.zero_add, Int.cast_ofNat_Int, Int.sub_zero] <;> omega) | (simp (disch := omega) only [w32_id, w64_id, x_up_p, x_up_s, x_up_o, x_fill_p, x_fill_i, x_fill_o, x_cpy_p, x_cpy_i, x_cpy_o, x_upR_p, x_upR_s, x_upR_o, x_zM_p, x_zR_p, x_set_p, x_set_s, x_cmp_ge, x_cmp_le, x_cmp_gt, x_cmp_lt, x_cmp_eq, not_true_eq_false, not_false_eq_true, true_and, and_true, Int.add_zero, Int.zero_add, Int.cast_ofNat_Int, Int.sub_zero]; done) | decide | fail) ?_
        (conv => whnf)
        refine And.intro (by first | omega | (simp (disch := omega) only [w32_id, w64_id, x_up_p, x_up_s, x_up_o, x_fill_p, x_fill_i, x_fill_o, x_cpy_p, x_cpy_i, x_cpy_o, x_upR_p, x_upR_s, x_upR_o, x_zM_p, x_zR_p, x_set_p, x_set_s, x_cmp_ge, x_cmp_le, x_cmp_gt, x_cmp_lt, x_cmp_eq, not_true_eq_false, not_false_eq_true, true_and, and_true, Int.add_zero, Int.zero_add, Int.cast_ofNat_Int, Int.sub_zero] <;> omega) | (simp (disch := omega) only [w32_id, w64_id, x_up_p, x_up_s, x_up_o, x_fill_p, x_fill_i, x_fill_o, x_cpy_p, x_cpy_i, x_cpy_o, x_upR_p, x_upR_s, x_upR_o, x_zM_p, x_zR_p, x_set_p, x_set_s, x_cmp_ge, x_cmp_le, x_cmp_gt, x_cmp_lt, x_cmp_eq, not_true_eq_false, not_false_eq_true, true_and, and_true, Int.add_zero, Int.zero_add, Int.cast_ofNat_Int, Int.sub_zero]; done) | decide | fail) ?_
        (conv => whnf)
        refine hF _ _ _ _ _ _ _ ?_
        simp only [show x_and (x_shr z (8 * (t : Int))) 255 = t_b z (8 * (t : Int)) from rfl, t_c (x := t_b z (8 * (t : Int))) ⟨hb.1, by omega⟩, x_charN (x := t_b z (8 * (t : Int))) ⟨hb.1, by omega⟩]
        simp (disch := omega) only [w32_id, w64_id, x_up_p, x_up_s, x_up_o, x_fill_p, x_fill_i, x_fill_o, x_cpy_p, x_cpy_i, x_cpy_o, x_upR_p, x_upR_s, x_upR_o, x_zM_p, x_zR_p, x_set_p, x_set_s, x_cmp_ge, x_cmp_le, x_cmp_gt, x_cmp_lt, x_cmp_eq, not_true_eq_false, not_false_eq_true, true_and, and_true, Int.add_zero, Int.zero_add, Int.cast_ofNat_Int, Int.sub_zero]
        refine ih _ (by omega) (by rw [x_up_s rfl]; omega) (by rw [x_up_s rfl]; omega) (fun M' a b c => hQ M' (fun p p1 p2 => ?_) (fun j hj => ?_) ?_)
        · rw [a p p1 p2, x_up_ne p1, x_up_ne p2]
        · rw [b j hj, x_up_o hj, x_up_p (by decide)]
        · rw [c]
          show _ = t_r z t (t_2 (t_b z (8 * t)) (M 82, M 81 2))
          congr 1
          unfold t_2
          rw [if_pos hb0, if_pos hn, x_up_s rfl]
          refine Prod.ext ?_ rfl
          funext j
          dsimp only
          rw [x_up_p (by decide)]
          unfold x_up
          by_cases hj : j = M 81 2
          · rw [if_pos ⟨rfl, hj⟩, if_pos hj]
          · rw [if_neg (fun h' => hj h'.2), if_neg hj]
      · refine br_t (by first | omega | (simp (disch := omega) only [w32_id, w64_id, x_up_p, x_up_s, x_up_o, x_fill_p, x_fill_i, x_fill_o, x_cpy_p, x_cpy_i, x_cpy_o, x_upR_p, x_upR_s, x_upR_o, x_zM_p, x_zR_p, x_set_p, x_set_s, x_cmp_ge, x_cmp_le, x_cmp_gt, x_cmp_lt, x_cmp_eq, not_true_eq_false, not_false_eq_true, true_and, and_true, Int.add_zero, Int.zero_add, Int.cast_ofNat_Int, Int.sub_zero] <;> omega) | (simp (disch := omega) only [w32_id, w64_id, x_up_p, x_up_s, x_up_o, x_fill_p, x_fill_i, x_fill_o, x_cpy_p, x_cpy_i, x_cpy_o, x_upR_p, x_upR_s, x_upR_o, x_zM_p, x_zR_p, x_set_p, x_set_s, x_cmp_ge, x_cmp_le, x_cmp_gt, x_cmp_lt, x_cmp_eq, not_true_eq_false, not_false_eq_true, true_and, and_true, Int.add_zero, Int.zero_add, Int.cast_ofNat_Int, Int.sub_zero]; done) | decide | fail) ?_
        (conv => whnf)
        refine hF _ _ _ _ _ _ _ ?_
        simp (disch := omega) only [w32_id, w64_id, x_up_p, x_up_s, x_up_o, x_fill_p, x_fill_i, x_fill_o, x_cpy_p, x_cpy_i, x_cpy_o, x_upR_p, x_upR_s, x_upR_o, x_zM_p, x_zR_p, x_set_p, x_set_s, x_cmp_ge, x_cmp_le, x_cmp_gt, x_cmp_lt, x_cmp_eq, not_true_eq_false, not_false_eq_true, true_and, and_true, Int.add_zero, Int.zero_add, Int.cast_ofNat_Int, Int.sub_zero]
        refine ih _ (by omega) (by rw [x_up_s rfl]; omega) (by rw [x_up_s rfl]; omega) (fun M' a b c => hQ M' (fun p p1 p2 => ?_) (fun j hj => ?_) ?_)
        · rw [a p p1 p2, x_up_ne p1]
        · rw [b j hj, x_up_o hj]
        · rw [c]
          show _ = t_r z t (t_2 (t_b z (8 * t)) (M 82, M 81 2))
          congr 1
          unfold t_2
          rw [if_pos hb0, if_neg hn, x_up_s rfl]
          refine Prod.ext ?_ rfl
          funext j
          dsimp only
          rw [x_up_p (by decide)]
/-- the text behind five numbers -/
def t_R (z1 z2 z3 z4 z5 : Int) (q : (Int → Int) × Int) : (Int → Int) × Int := t_r z5 4 (t_r z4 4 (t_r z3 4 (t_r z2 4 (t_r z1 4 q))))
set_option linter.unusedSimpArgs false in
set_option maxRecDepth 100000 in
set_option maxHeartbeats 4000000 in
theorem c_16 (hE : ∀ j, (eX j).1 ≤ 1000000) {z1 z2 z3 z4 z5 : Int} (h0 : 0 ≤ M 81 2) (h1 : M 81 2 ≤ 480)
    (hQ : ∀ M' : Nat → Int → Int, (∀ p, p ≠ 81 → p ≠ 82 → M' p = M p) → (∀ j, j ≠ 0 → j ≠ 2 → M' 81 j = M 81 j) → M' 82 = (t_R z1 z2 z3 z4 z5 (M 82, M 81 2)).1 → M' 81 2 = (if (t_R z1 z2 z3 z4 z5 (M 82, M 81 2)).2 > 480 then M 81 2 else (t_R z1 z2 z3 z4 z5 (M 82, M 81 2)).2) → M' 81 0 = (if (t_R z1 z2 z3 z4 z5 (M 82, M 81 2)).2 > 480 then 1 else 0) → Q (.inl (some (.inl (if (t_R z1 z2 z3 z4 z5 (M 82, M 81 2)).2 > 480 then 0 else (t_R z1 z2 z3 z4 z5 (M 82, M 81 2)).2)))) (ρ, e, M', R, sl)) :
    xm_call tb_P eX tb_K0 174 (d + 2) 16 [.inr (.inr (some 82)), .inl z1, .inl z2, .inl z3, .inl z4, .inl z5] (ρ, e, M, R, sl) Q := by
  have go : ∀ (k z : Int), 0 ≤ k ∧ k ≤ 4 → (k = 0 ∧ z = z1 ∨ k = 1 ∧ z = z2 ∨ k = 2 ∧ z = z3 ∨ k = 3 ∧ z = z4 ∨ k = 4 ∧ z = z5) → ∀ (M1 : Nat → Int → Int), 0 ≤ M1 81 2 → M1 81 2 + 4 ≤ 1000 → (∀ M' : Nat → Int → Int, (∀ p, p ≠ 81 → p ≠ 82 → M' p = M1 p) → (∀ j, j ≠ 2 → M' 81 j = M1 81 j) → (M' 82, M' 81 2) = t_r z 4 (M1 82, M1 81 2) → xm_J tb_P eX tb_K0 174 (d + 1) 16 Q 9 [(0, .inr (.inr (some 82))), (1, .inl z1), (2, .inl z2), (3, .inl z3), (4, .inl z4), (5, .inl z5), (6, .inl (M 81 2)), (7, .inl (k + 1))] [] (ρ, e, M', R, sl)) → xm_J tb_P eX tb_K0 174 (d + 1) 16 Q 9 [(0, .inr (.inr (some 82))), (1, .inl z1), (2, .inl z2), (3, .inl z3), (4, .inl z4), (5, .inl z5), (6, .inl (M 81 2)), (7, .inl k)] [] (ρ, e, M1, R, sl) := by
    intro k z hk hz M1 a0 a1 hK
    have h2 := l_16 (d := d) (Q := Q) (R := R) (ρ := ρ) (e := e) (sl := sl) (z1 := z1) (z2 := z2) (z3 := z3) (z4 := z4) (z5 := z5) (w := M 81 2) (z := z) hE hk 4 M1 (by omega) a0 (by omega) hK
    refine xm_on hE (fun k pc => if Nat.beq k 16 && Nat.beq pc 63 then some [0, 1, 2, 3, 4, 5, 6, 7, 8, 9] else if Nat.beq k 16 && Nat.beq pc 9 then some [0, 1, 2, 3, 4, 5, 6, 7] else none) (fun k => Nat.beq k 17) (fun F C hF hC => ?_)
    rcases hz with ⟨rfl, rfl⟩ | ⟨rfl, rfl⟩ | ⟨rfl, rfl⟩ | ⟨rfl, rfl⟩ | ⟨rfl, rfl⟩
    · (conv => whnf)
      repeat (first | (refine br_t (by first | omega | (simp (disch := omega) only [w32_id, w64_id, x_up_p, x_up_s, x_up_o, x_fill_p, x_fill_i, x_fill_o, x_cpy_p, x_cpy_i, x_cpy_o, x_upR_p, x_upR_s, x_upR_o, x_zM_p, x_zR_p, x_set_p, x_set_s, x_cmp_ge, x_cmp_le, x_cmp_gt, x_cmp_lt, x_cmp_eq, not_true_eq_false, not_false_eq_true, true_and, and_true, Int.add_zero, Int.zero_add, Int.cast_ofNat_Int, Int.sub_zero] <;> omega) | (simp (disch := omega) only [w32_id, w64_id, x_up_p, x_up_s, x_up_o, x_fill_p, x_fill_i, x_fill_o, x_cpy_p, x_cpy_i, x_cpy_o, x_upR_p, x_upR_s, x_upR_o, x_zM_p, x_zR_p, x_set_p, x_set_s, x_cmp_ge, x_cmp_le, x_cmp_gt, x_cmp_lt, x_cmp_eq, not_true_eq_false, not_false_eq_true, true_and, and_true, Int.add_zero, Int.zero_add, Int.cast_ofNat_Int, Int.sub_zero]; done) | decide | fail) ?_; (conv => whnf)) | (refine br_f (by first | omega | (simp (disch := omega) only [w32_id, w64_id, x_up_p, x_up_s, x_up_o, x_fill_p, x_fill_i, x_fill_o, x_cpy_p, x_cpy_i, x_cpy_o, x_upR_p, x_upR_s, x_upR_o, x_zM_p, x_zR_p, x_set_p, x_set_s, x_cmp_ge, x_cmp_le, x_cmp_gt, x_cmp_lt, x_cmp_eq, not_true_eq_false, not_false_eq_true, true_and, and_true, Int.add_zero, Int.zero_add, Int.cast_ofNat_Int, Int.sub_zero] <;> omega) | (simp (disch := omega) only [w32_id, w64_id, x_up_p, x_up_s, x_up_o, x_fill_p, x_fill_i, x_fill_o, x_cpy_p, x_cpy_i, x_cpy_o, x_upR_p, x_upR_s, x_upR_o, x_zM_p, x_zR_p, x_set_p, x_set_s, x_cmp_ge, x_cmp_le, x_cmp_gt, x_cmp_lt, x_cmp_eq, not_true_eq_false, not_false_eq_true, true_and, and_true, Int.add_zero, Int.zero_add, Int.cast_ofNat_Int, Int.sub_zero]; done) | decide | fail) ?_; (conv => whnf)) | (refine And.intro (by first | omega | (simp (disch := omega) only [w32_id, w64_id, x_up_p, x_up_s, x_up_o, x_fill_p, x_fill_i, x_fill_o, x_cpy_p, x_cpy_i, x_cpy_o, x_upR_p, x_upR_s, x_upR_o, x_zM_p, x_zR_p, x_set_p, x_set_s, x_cmp_ge, x_cmp_le, x_cmp_gt, x_cmp_lt, x_cmp_eq, not_true_eq_false, not_false_eq_true, true_and, and_true, Int.add_zero, Int.zero_add, Int.cast_ofNat_Int, Int.sub_zero] <;> omega) | (simp (disch := omega) only [w32_id, w64_id, x_up_p, x_up_s, x_up_o, x_fill_p, x_fill_i, x_fill_o, x_cpy_p, x_cpy_i, x_cpy_o, x_upR_p, x_upR_s, x_upR_o, x_zM_p, x_zR_p, x_set_p, x_set_s, x_cmp_ge, x_cmp_le, x_cmp_gt, x_cmp_lt, x_cmp_eq, not_true_eq_false, not_false_eq_true, true_and, and_true, Int.add_zero, Int.zero_add, Int.cast_ofNat_Int, Int.sub_zero]; done) | decide | fail) ?_; (conv => whnf)))
      exact hF _ _ _ _ _ _ _ h2
    · (conv => whnf)
      repeat (first | (refine br_t (by first | omega | (simp (disch := omega) only [w32_id, w64_id, x_up_p, x_up_s, x_up_o, x_fill_p, x_fill_i, x_fill_o, x_cpy_p, x_cpy_i, x_cpy_o, x_upR_p, x_upR_s, x_upR_o, x_zM_p, x_zR_p, x_set_p, x_set_s, x_cmp_ge, x_cmp_le, x_cmp_gt, x_cmp_lt, x_cmp_eq, not_true_eq_false, not_false_eq_true, true_and, and_true, Int.add_zero, Int.zero_add, Int.cast_ofNat_Int, Int.sub_zero] <;> omega) | (simp (disch := omega) only [w32_id, w64_id, x_up_p, x_up_s, x_up_o, x_fill_p, x_fill_i, x_fill_o, x_cpy_p, x_cpy_i, x_cpy_o, x_upR_p, x_upR_s, x_upR_o, x_zM_p, x_zR_p, x_set_p, x_set_s, x_cmp_ge, x_cmp_le, x_cmp_gt, x_cmp_lt, x_cmp_eq, not_true_eq_false, not_false_eq_true, true_and, and_true, Int.add_zero, Int.zero_add, Int.cast_ofNat_Int, Int.sub_zero]; done) | decide | fail) ?_; (conv => whnf)) | (refine br_f (by first | omega | (simp (disch := omega) only [w32_id, w64_id, x_up_p, x_up_s, x_up_o, x_fill_p, x_fill_i, x_fill_o, x_cpy_p, x_cpy_i, x_cpy_o, x_upR_p, x_upR_s, x_upR_o, x_zM_p, x_zR_p, x_set_p, x_set_s, x_cmp_ge, x_cmp_le, x_cmp_gt, x_cmp_lt, x_cmp_eq, not_true_eq_false, not_false_eq_true, true_and, and_true, Int.add_zero, Int.zero_add, Int.cast_ofNat_Int, Int.sub_zero] <;> omega) | (simp (disch := omega) only [w32_id, w64_id, x_up_p, x_up_s, x_up_o, x_fill_p, x_fill_i, x_fill_o, x_cpy_p, x_cpy_i, x_cpy_o, x_upR_p, x_upR_s, x_upR_o, x_zM_p, x_zR_p, x_set_p, x_set_s, x_cmp_ge, x_cmp_le, x_cmp_gt, x_cmp_lt, x_cmp_eq, not_true_eq_false, not_false_eq_true, true_and, and_true, Int.add_zero, Int.zero_add, Int.cast_ofNat_Int, Int.sub_zero]; done) | decide | fail) ?_; (conv => whnf)) | (refine And.intro (by first | omega | (simp (disch := omega) only [w32_id, w64_id, x_up_p, x_up_s, x_up_o, x_fill_p, x_fill_i, x_fill_o, x_cpy_p, x_cpy_i, x_cpy_o, x_upR_p, x_upR_s, x_upR_o, x_zM_p, x_zR_p, x_set_p, x_set_s, x_cmp_ge, x_cmp_le, x_cmp_gt, x_cmp_lt, x_cmp_eq, not_true_eq_false, not_false_eq_true, true_and, and_true, Int.add_zero, Int.zero_add, Int.cast_ofNat_Int, Int.sub_zero] <;> omega) | (simp (disch := omega) only [w32_id, w64_id, x_up_p, x_up_s, x_up_o, x_fill_p, x_fill_i, x_fill_o, x_cpy_p, x_cpy_i, x_cpy_o, x_upR_p, x_upR_s, x_upR_o, x_zM_p, x_zR_p, x_set_p, x_set_s, x_cmp_ge, x_cmp_le, x_cmp_gt, x_cmp_lt, x_cmp_eq, not_true_eq_false, not_false_eq_true, true_and, and_true, Int.add_zero, Int.zero_add, Int.cast_ofNat_Int, Int.sub_zero]; done) | decide | fail) ?_; (conv => whnf)))
      exact hF _ _ _ _ _ _ _ h2
    · (conv => whnf)
      repeat (first | (refine br_t (by first | omega | (simp (disch := omega) only [w32_id, w64_id, x_up_p, x_up_s, x_up_o, x_fill_p, x_fill_i, x_fill_o, x_cpy_p, x_cpy_i, x_cpy_o, x_upR_p, x_upR_s, x_upR_o, x_zM_p, x_zR_p, x_set_p, x_set_s, x_cmp_ge, x_cmp_le, x_cmp_gt, x_cmp_lt, x_cmp_eq, not_true_eq_false, not_false_eq_true, true_and, and_true, Int.add_zero, Int.zero_add, Int.cast_ofNat_Int, Int.sub_zero] <;> omega) | (simp (disch := omega) only [w32_id, w64_id, x_up_p, x_up_s, x_up_o, x_fill_p, x_fill_i, x_fill_o, x_cpy_p, x_cpy_i, x_cpy_o, x_upR_p, x_upR_s, x_upR_o, x_zM_p, x_zR_p, x_set_p, x_set_s, x_cmp_ge, x_cmp_le, x_cmp_gt, x_cmp_lt, x_cmp_eq, not_true_eq_false, not_false_eq_true, true_and, and_true, Int.add_zero, Int.zero_add, Int.cast_ofNat_Int, Int.sub_zero]; done) | decide | fail) ?_; (conv => whnf)) | (refine br_f (by first | omega | (simp (disch := omega) only [w32_id, w64_id, x_up_p, x_up_s, x_up_o, x_fill_p, x_fill_i, x_fill_o, x_cpy_p, x_cpy_i, x_cpy_o, x_upR_p, x_upR_s, x_upR_o, x_zM_p, x_zR_p, x_set_p, x_set_s, x_cmp_ge, x_cmp_le, x_cmp_gt, x_cmp_lt, x_cmp_eq, not_true_eq_false, not_false_eq_true, true_and, and_true, Int.add_zero, Int.zero_add, Int.cast_ofNat_Int, Int.sub_zero] <;> omega) | (simp (disch := omega) only [w32_id, w64_id, x_up_p, x_up_s, x_up_o, x_fill_p, x_fill_i, x_fill_o, x_cpy_p, x_cpy_i, x_cpy_o, x_upR_p, x_upR_s, x_upR_o, x_zM_p, x_zR_p, x_set_p, x_set_s, x_cmp_ge, x_cmp_le, x_cmp_gt, x_cmp_lt, x_cmp_eq, not_true_eq_false, not_false_eq_true, true_and, and_true, Int.add_zero, Int.zero_add, Int.cast_ofNat_Int, Int.sub_zero]; done) | decide | fail) ?_; (conv => whnf)) | (refine And.intro (by first | omega | (simp (disch := omega) only [w32_id, w64_id, x_up_p, x_up_s, x_up_o, x_fill_p, x_fill_i, x_fill_o, x_cpy_p, x_cpy_i, x_cpy_o, x_upR_p, x_upR_s, x_upR_o, x_zM_p, x_zR_p, x_set_p, x_set_s, x_cmp_ge, x_cmp_le, x_cmp_gt, x_cmp_lt, x_cmp_eq, not_true_eq_false, not_false_eq_true, true_and, and_true, Int.add_zero, Int.zero_add, Int.cast_ofNat_Int, Int.sub_zero] <;> omega) | (simp (disch := omega) only [w32_id, w64_id, x_up_p, x_up_s, x_up_o, x_fill_p, x_fill_i, x_fill_o, x_cpy_p, x_cpy_i, x_cpy_o, x_upR_p, x_upR_s, x_upR_o, x_zM_p, x_zR_p, x_set_p, x_set_s, x_cmp_ge, x_cmp_le, x_cmp_gt, x_cmp_lt, x_cmp_eq, not_true_eq_false, not_false_eq_true, true_and, and_true, Int.add_zero, Int.zero_add, Int.cast_ofNat_Int, Int.sub_zero]; done) | decide | fail) ?_; (conv => whnf)))
      exact hF _ _ _ _ _ _ _ h2
    · (conv => whnf)
      repeat (first | (refine br_t (by first | omega | (simp (disch := omega) only [w32_id, w64_id, x_up_p, x_up_s, x_up_o, x_fill_p, x_fill_i, x_fill_o, x_cpy_p, x_cpy_i, x_cpy_o, x_upR_p, x_upR_s, x_upR_o, x_zM_p, x_zR_p, x_set_p, x_set_s, x_cmp_ge, x_cmp_le, x_cmp_gt, x_cmp_lt, x_cmp_eq, not_true_eq_false, not_false_eq_true, true_and, and_true, Int.add_zero, Int.zero_add, Int.cast_ofNat_Int, Int.sub_zero] <;> omega) | (simp (disch := omega) only [w32_id, w64_id, x_up_p, x_up_s, x_up_o, x_fill_p, x_fill_i, x_fill_o, x_cpy_p, x_cpy_i, x_cpy_o, x_upR_p, x_upR_s, x_upR_o, x_zM_p, x_zR_p, x_set_p, x_set_s, x_cmp_ge, x_cmp_le, x_cmp_gt, x_cmp_lt, x_cmp_eq, not_true_eq_false, not_false_eq_true, true_and, and_true, Int.add_zero, Int.zero_add, Int.cast_ofNat_Int, Int.sub_zero]; done) | decide | fail) ?_; (conv => whnf)) | (refine br_f (by first | omega | (simp (disch := omega) only [w32_id, w64_id, x_up_p, x_up_s, x_up_o, x_fill_p, x_fill_i, x_fill_o, x_cpy_p, x_cpy_i, x_cpy_o, x_upR_p, x_upR_s, x_upR_o, x_zM_p, x_zR_p, x_set_p, x_set_s, x_cmp_ge, x_cmp_le, x_cmp_gt, x_cmp_lt, x_cmp_eq, not_true_eq_false, not_false_eq_true, true_and, and_true, Int.add_zero, Int.zero_add, Int.cast_ofNat_Int, Int.sub_zero] <;> omega) | (simp (disch := omega) only [w32_id, w64_id, x_up_p, x_up_s, x_up_o, x_fill_p, x_fill_i, x_fill_o, x_cpy_p, x_cpy_i, x_cpy_o, x_upR_p, x_upR_s, x_upR_o, x_zM_p, x_zR_p, x_set_p, x_set_s, x_cmp_ge, x_cmp_le, x_cmp_gt, x_cmp_lt, x_cmp_eq, not_true_eq_false, not_false_eq_true, true_and, and_true, Int.add_zero, Int.zero_add, Int.cast_ofNat_Int, Int.sub_zero]; done) | decide | fail) ?_; (conv => whnf)) | (refine And.intro (by first | omega | (simp (disch := omega) only [w32_id, w64_id, x_up_p, x_up_s, x_up_o, x_fill_p, x_fill_i, x_fill_o, x_cpy_p, x_cpy_i, x_cpy_o, x_upR_p, x_upR_s, x_upR_o, x_zM_p, x_zR_p, x_set_p, x_set_s, x_cmp_ge, x_cmp_le, x_cmp_gt, x_cmp_lt, x_cmp_eq, not_true_eq_false, not_false_eq_true, true_and, and_true, Int.add_zero, Int.zero_add, Int.cast_ofNat_Int, Int.sub_zero] <;> omega) | (simp (disch := omega) only [w32_id, w64_id, x_up_p, x_up_s, x_up_o, x_fill_p, x_fill_i, x_fill_o, x_cpy_p, x_cpy_i, x_cpy_o, x_upR_p, x_upR_s, x_upR_o, x_zM_p, x_zR_p, x_set_p, x_set_s, x_cmp_ge, x_cmp_le, x_cmp_gt, x_cmp_lt, x_cmp_eq, not_true_eq_false, not_false_eq_true, true_and, and_true, Int.add_zero, Int.zero_add, Int.cast_ofNat_Int, Int.sub_zero]; done) | decide | fail) ?_; (conv => whnf)))
      exact hF _ _ _ _ _ _ _ h2
    · (conv => whnf)
      repeat (first | (refine br_t (by first | omega | (simp (disch := omega) only [w32_id, w64_id, x_up_p, x_up_s, x_up_o, x_fill_p, x_fill_i, x_fill_o, x_cpy_p, x_cpy_i, x_cpy_o, x_upR_p, x_upR_s, x_upR_o, x_zM_p, x_zR_p, x_set_p, x_set_s, x_cmp_ge, x_cmp_le, x_cmp_gt, x_cmp_lt, x_cmp_eq, not_true_eq_false, not_false_eq_true, true_and, and_true, Int.add_zero, Int.zero_add, Int.cast_ofNat_Int, Int.sub_zero] <;> omega) | (simp (disch := omega) only [w32_id, w64_id, x_up_p, x_up_s, x_up_o, x_fill_p, x_fill_i, x_fill_o, x_cpy_p, x_cpy_i, x_cpy_o, x_upR_p, x_upR_s, x_upR_o, x_zM_p, x_zR_p, x_set_p, x_set_s, x_cmp_ge, x_cmp_le, x_cmp_gt, x_cmp_lt, x_cmp_eq, not_true_eq_false, not_false_eq_true, true_and, and_true, Int.add_zero, Int.zero_add, Int.cast_ofNat_Int, Int.sub_zero]; done) | decide | fail) ?_; (conv => whnf)) | (refine br_f (by first | omega | (simp (disch := omega) only [w32_id, w64_id, x_up_p, x_up_s, x_up_o, x_fill_p, x_fill_i, x_fill_o, x_cpy_p, x_cpy_i, x_cpy_o, x_upR_p, x_upR_s, x_upR_o, x_zM_p, x_zR_p, x_set_p, x_set_s, x_cmp_ge, x_cmp_le, x_cmp_gt, x_cmp_lt, x_cmp_eq, not_true_eq_false, not_false_eq_true, true_and, and_true, Int.add_zero, Int.zero_add, Int.cast_ofNat_Int, Int.sub_zero] <;> omega) | (simp (disch := omega) only [w32_id, w64_id, x_up_p, x_up_s, x_up_o, x_fill_p, x_fill_i, x_fill_o, x_cpy_p, x_cpy_i, x_cpy_o, x_upR_p, x_upR_s, x_upR_o, x_zM_p, x_zR_p, x_set_p, x_set_s, x_cmp_ge, x_cmp_le, x_cmp_gt, x_cmp_lt, x_cmp_eq, not_true_eq_false, not_false_eq_true, true_and, and_true, Int.add_zero, Int.zero_add, Int.cast_ofNat_Int, Int.sub_zero]; done) | decide | fail) ?_; (conv => whnf)) | (refine And.intro (by first | omega | (simp (disch := omega) only [w32_id, w64_id, x_up_p, x_up_s, x_up_o, x_fill_p, x_fill_i, x_fill_o, x_cpy_p, x_cpy_i, x_cpy_o, x_upR_p, x_upR_s, x_upR_o, x_zM_p, x_zR_p, x_set_p, x_set_s, x_cmp_ge, x_cmp_le, x_cmp_gt, x_cmp_lt, x_cmp_eq, not_true_eq_false, not_false_eq_true, true_and, and_true, Int.add_zero, Int.zero_add, Int.cast_ofNat_Int, Int.sub_zero] <;> omega) | (simp (disch := omega) only [w32_id, w64_id, x_up_p, x_up_s, x_up_o, x_fill_p, x_fill_i, x_fill_o, x_cpy_p, x_cpy_i, x_cpy_o, x_upR_p, x_upR_s, x_upR_o, x_zM_p, x_zR_p, x_set_p, x_set_s, x_cmp_ge, x_cmp_le, x_cmp_gt, x_cmp_lt, x_cmp_eq, not_true_eq_false, not_false_eq_true, true_and, and_true, Int.add_zero, Int.zero_add, Int.cast_ofNat_Int, Int.sub_zero]; done) | decide | fail) ?_; (conv => whnf)))
      exact hF _ _ _ _ _ _ _ h2
  refine xm_run hE (fun k pc => if Nat.beq k 16 && Nat.beq pc 63 then some [0, 1, 2, 3, 4, 5, 6, 7, 8, 9] else if Nat.beq k 16 && Nat.beq pc 9 then some [0, 1, 2, 3, 4, 5, 6, 7] else none) (fun k => Nat.beq k 17) (fun F C hF hC => ?_)
  (conv => whnf)
  refine hF _ _ _ _ _ _ _ ?_
  have n1 := t_n_in z1 4
  have n2 := t_n_in z2 4
  have n3 := t_n_in z3 4
  have n4 := t_n_in z4 4
  have n5 := t_n_in z5 4
  refine go 0 z1 (by omega) (by omega) M h0 (by omega) (fun M1 a1 b1 c1 => ?_)
  have l1 : M1 81 2 = M 81 2 + t_n z1 4 := by rw [show M1 81 2 = (t_r z1 4 (M 82, M 81 2)).2 from by rw [← c1]]; exact t_r_n _ _ _
  refine go 1 z2 (by omega) (by omega) M1 (by omega) (by omega) (fun M2 a2 b2 c2 => ?_)
  have l2 : M2 81 2 = M1 81 2 + t_n z2 4 := by rw [show M2 81 2 = (t_r z2 4 (M1 82, M1 81 2)).2 from by rw [← c2]]; exact t_r_n _ _ _
  refine go 2 z3 (by omega) (by omega) M2 (by omega) (by omega) (fun M3 a3 b3 c3 => ?_)
  have l3 : M3 81 2 = M2 81 2 + t_n z3 4 := by rw [show M3 81 2 = (t_r z3 4 (M2 82, M2 81 2)).2 from by rw [← c3]]; exact t_r_n _ _ _
  refine go 3 z4 (by omega) (by omega) M3 (by omega) (by omega) (fun M4 a4 b4 c4 => ?_)
  have l4 : M4 81 2 = M3 81 2 + t_n z4 4 := by rw [show M4 81 2 = (t_r z4 4 (M3 82, M3 81 2)).2 from by rw [← c4]]; exact t_r_n _ _ _
  refine go 4 z5 (by omega) (by omega) M4 (by omega) (by omega) (fun M5 a5 b5 c5 => ?_)
  have l5 : M5 81 2 = M4 81 2 + t_n z5 4 := by rw [show M5 81 2 = (t_r z5 4 (M4 82, M4 81 2)).2 from by rw [← c5]]; exact t_r_n _ _ _
  have c6 : (M5 82, M5 81 2) = t_R z1 z2 z3 z4 z5 (M 82, M 81 2) := by rw [c5, c4, c3, c2, c1]; rfl
  have e82 : M5 82 = (t_R z1 z2 z3 z4 z5 (M 82, M 81 2)).1 := by rw [← c6]
  have e2 : M5 81 2 = (t_R z1 z2 z3 z4 z5 (M 82, M 81 2)).2 := by rw [← c6]
  have fr : ∀ p, p ≠ 81 → p ≠ 82 → M5 p = M p := fun p p1 p2 => by rw [a5 p p1 p2, a4 p p1 p2, a3 p p1 p2, a2 p p1 p2, a1 p p1 p2]
  have fs : ∀ j, j ≠ 2 → M5 81 j = M 81 j := fun j p1 => by rw [b5 j p1, b4 j p1, b3 j p1, b2 j p1, b1 j p1]
  refine xm_on hE (fun _ _ => none) (fun k => Nat.beq k 18) (fun F C hF hC => ?_)
  by_cases hb : M5 81 2 > 480
  · (conv => whnf)
    repeat (first | (refine br_t (by first | omega | (simp (disch := omega) only [w32_id, w64_id, x_up_p, x_up_s, x_up_o, x_fill_p, x_fill_i, x_fill_o, x_cpy_p, x_cpy_i, x_cpy_o, x_upR_p, x_upR_s, x_upR_o, x_zM_p, x_zR_p, x_set_p, x_set_s, x_cmp_ge, x_cmp_le, x_cmp_gt, x_cmp_lt, x_cmp_eq, not_true_eq_false, not_false_eq_true, true_and, and_true, Int.add_zero, Int.zero_add, Int.cast_ofNat_Int, Int.sub_zero] <;> omega) | (simp (disch := omega) only [w32_id, w64_id, x_up_p, x_up_s, x_up_o, x_fill_p, x_fill_i, x_fill_o, x_cpy_p, x_cpy_i, x_cpy_o, x_upR_p, x_upR_s, x_upR_o, x_zM_p, x_zR_p, x_set_p, x_set_s, x_cmp_ge, x_cmp_le, x_cmp_gt, x_cmp_lt, x_cmp_eq, not_true_eq_false, not_false_eq_true, true_and, and_true, Int.add_zero, Int.zero_add, Int.cast_ofNat_Int, Int.sub_zero]; done) | decide | fail) ?_; (conv => whnf)) | (refine br_f (by first | omega | (simp (disch := omega) only [w32_id, w64_id, x_up_p, x_up_s, x_up_o, x_fill_p, x_fill_i, x_fill_o, x_cpy_p, x_cpy_i, x_cpy_o, x_upR_p, x_upR_s, x_upR_o, x_zM_p, x_zR_p, x_set_p, x_set_s, x_cmp_ge, x_cmp_le, x_cmp_gt, x_cmp_lt, x_cmp_eq, not_true_eq_false, not_false_eq_true, true_and, and_true, Int.add_zero, Int.zero_add, Int.cast_ofNat_Int, Int.sub_zero] <;> omega) | (simp (disch := omega) only [w32_id, w64_id, x_up_p, x_up_s, x_up_o, x_fill_p, x_fill_i, x_fill_o, x_cpy_p, x_cpy_i, x_cpy_o, x_upR_p, x_upR_s, x_upR_o, x_zM_p, x_zR_p, x_set_p, x_set_s, x_cmp_ge, x_cmp_le, x_cmp_gt, x_cmp_lt, x_cmp_eq, not_true_eq_false, not_false_eq_true, true_and, and_true, Int.add_zero, Int.zero_add, Int.cast_ofNat_Int, Int.sub_zero]; done) | decide | fail) ?_; (conv => whnf)) | (refine And.intro (by first | omega | (simp (disch := omega) only [w32_id, w64_id, x_up_p, x_up_s, x_up_o, x_fill_p, x_fill_i, x_fill_o, x_cpy_p, x_cpy_i, x_cpy_o, x_upR_p, x_upR_s, x_upR_o, x_zM_p, x_zR_p, x_set_p, x_set_s, x_cmp_ge, x_cmp_le, x_cmp_gt, x_cmp_lt, x_cmp_eq, not_true_eq_false, not_false_eq_true, true_and, and_true, Int.add_zero, Int.zero_add, Int.cast_ofNat_Int, Int.sub_zero] <;> omega) | (simp (disch := omega) only [w32_id, w64_id, x_up_p, x_up_s, x_up_o, x_fill_p, x_fill_i, x_fill_o, x_cpy_p, x_cpy_i, x_cpy_o, x_upR_p, x_upR_s, x_upR_o, x_zM_p, x_zR_p, x_set_p, x_set_s, x_cmp_ge, x_cmp_le, x_cmp_gt, x_cmp_lt, x_cmp_eq, not_true_eq_false, not_false_eq_true, true_and, and_true, Int.add_zero, Int.zero_add, Int.cast_ofNat_Int, Int.sub_zero]; done) | decide | fail) ?_; (conv => whnf)))
    simp (disch := omega) only [w32_id, w64_id, x_up_p, x_up_s, x_up_o, x_fill_p, x_fill_i, x_fill_o, x_cpy_p, x_cpy_i, x_cpy_o, x_upR_p, x_upR_s, x_upR_o, x_zM_p, x_zR_p, x_set_p, x_set_s, x_cmp_ge, x_cmp_le, x_cmp_gt, x_cmp_lt, x_cmp_eq, not_true_eq_false, not_false_eq_true, true_and, and_true, Int.add_zero, Int.zero_add, Int.cast_ofNat_Int, Int.sub_zero]
    have := hQ (x_up (x_up M5 81 0 1) 81 2 (M 81 2)) (fun p p1 p2 => by rw [x_up_ne p1, x_up_ne p1, fr p p1 p2]) (fun j p1 p2 => by rw [x_up_o p2, x_up_o p1, fs j p2]) (by rw [← e82]; funext j; rw [x_up_p (by decide), x_up_p (by decide)]) (by rw [x_up_s rfl, ← e2, if_pos hb]) (by rw [x_up_o (by decide), x_up_s rfl, ← e2, if_pos hb])
    rw [← e2, if_pos hb] at this
    exact this
  · (conv => whnf)
    repeat (first | (refine br_t (by first | omega | (simp (disch := omega) only [w32_id, w64_id, x_up_p, x_up_s, x_up_o, x_fill_p, x_fill_i, x_fill_o, x_cpy_p, x_cpy_i, x_cpy_o, x_upR_p, x_upR_s, x_upR_o, x_zM_p, x_zR_p, x_set_p, x_set_s, x_cmp_ge, x_cmp_le, x_cmp_gt, x_cmp_lt, x_cmp_eq, not_true_eq_false, not_false_eq_true, true_and, and_true, Int.add_zero, Int.zero_add, Int.cast_ofNat_Int, Int.sub_zero] <;> omega) | (simp (disch := omega) only [w32_id, w64_id, x_up_p, x_up_s, x_up_o, x_fill_p, x_fill_i, x_fill_o, x_cpy_p, x_cpy_i, x_cpy_o, x_upR_p, x_upR_s, x_upR_o, x_zM_p, x_zR_p, x_set_p, x_set_s, x_cmp_ge, x_cmp_le, x_cmp_gt, x_cmp_lt, x_cmp_eq, not_true_eq_false, not_false_eq_true, true_and, and_true, Int.add_zero, Int.zero_add, Int.cast_ofNat_Int, Int.sub_zero]; done) | decide | fail) ?_; (conv => whnf)) | (refine br_f (by first | omega | (simp (disch := omega) only [w32_id, w64_id, x_up_p, x_up_s, x_up_o, x_fill_p, x_fill_i, x_fill_o, x_cpy_p, x_cpy_i, x_cpy_o, x_upR_p, x_upR_s, x_upR_o, x_zM_p, x_zR_p, x_set_p, x_set_s, x_cmp_ge, x_cmp_le, x_cmp_gt, x_cmp_lt, x_cmp_eq, not_true_eq_false, not_false_eq_true, true_and, and_true, Int.add_zero, Int.zero_add, Int.cast_ofNat_Int, Int.sub_zero] <;> omega) | (simp (disch := omega) only [w32_id, w64_id, x_up_p, x_up_s, x_up_o, x_fill_p, x_fill_i, x_fill_o, x_cpy_p, x_cpy_i, x_cpy_o, x_upR_p, x_upR_s, x_upR_o, x_zM_p, x_zR_p, x_set_p, x_set_s, x_cmp_ge, x_cmp_le, x_cmp_gt, x_cmp_lt, x_cmp_eq, not_true_eq_false, not_false_eq_true, true_and, and_true, Int.add_zero, Int.zero_add, Int.cast_ofNat_Int, Int.sub_zero]; done) | decide | fail) ?_; (conv => whnf)) | (refine And.intro (by first | omega | (simp (disch := omega) only [w32_id, w64_id, x_up_p, x_up_s, x_up_o, x_fill_p, x_fill_i, x_fill_o, x_cpy_p, x_cpy_i, x_cpy_o, x_upR_p, x_upR_s, x_upR_o, x_zM_p, x_zR_p, x_set_p, x_set_s, x_cmp_ge, x_cmp_le, x_cmp_gt, x_cmp_lt, x_cmp_eq, not_true_eq_false, not_false_eq_true, true_and, and_true, Int.add_zero, Int.zero_add, Int.cast_ofNat_Int, Int.sub_zero] <;> omega) | (simp (disch := omega) only [w32_id, w64_id, x_up_p, x_up_s, x_up_o, x_fill_p, x_fill_i, x_fill_o, x_cpy_p, x_cpy_i, x_cpy_o, x_upR_p, x_upR_s, x_upR_o, x_zM_p, x_zR_p, x_set_p, x_set_s, x_cmp_ge, x_cmp_le, x_cmp_gt, x_cmp_lt, x_cmp_eq, not_true_eq_false, not_false_eq_true, true_and, and_true, Int.add_zero, Int.zero_add, Int.cast_ofNat_Int, Int.sub_zero]; done) | decide | fail) ?_; (conv => whnf)))
    simp (disch := omega) only [w32_id, w64_id, x_up_p, x_up_s, x_up_o, x_fill_p, x_fill_i, x_fill_o, x_cpy_p, x_cpy_i, x_cpy_o, x_upR_p, x_upR_s, x_upR_o, x_zM_p, x_zR_p, x_set_p, x_set_s, x_cmp_ge, x_cmp_le, x_cmp_gt, x_cmp_lt, x_cmp_eq, not_true_eq_false, not_false_eq_true, true_and, and_true, Int.add_zero, Int.zero_add, Int.cast_ofNat_Int, Int.sub_zero]
    have := hQ (x_up M5 81 0 0) (fun p p1 p2 => by rw [x_up_ne p1, fr p p1 p2]) (fun j p1 p2 => by rw [x_up_o p1, fs j p2]) (by rw [← e82]; funext j; rw [x_up_p (by decide)]) (by rw [x_up_o (by decide), ← e2, if_neg hb]) (by rw [x_up_s rfl, ← e2, if_neg hb])
    rw [← e2, if_neg hb] at this
    exact this
end

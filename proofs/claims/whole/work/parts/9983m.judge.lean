/-! THE CLASS'S JUDGE: the bodies -/
theorem k_ea_T {M M' : Nat → Int → Int} {em : Int → Int → List (Int × Int)} (h : M' 118 = M 118) : ∀ {n : Nat} {a p : Int}, k_ea M' em a n p = k_ea M em a n p
  | 0, _, _ => rfl
  | n + 1, a, p => by
    show em (M' 118 a) p ++ k_ea M' em (a + 1) n (p + (em (M' 118 a) p).length) = em (M 118 a) p ++ k_ea M em (a + 1) n (p + (em (M 118 a) p).length)
    rw [h, k_ea_T h]
theorem k_em_T {M M' : Nat → Int → Int} {fs : Nat} {fr : Int → Int} (h : ∀ x, x ≠ 81 → M' x = M x) : ∀ (n : Nat), k_em M' fs fr n = k_em M fs fr n
  | 0 => by
    funext W r p
    rfl
  | n + 1 => by
    funext W r p
    have ih := k_em_T (fs := fs) (fr := fr) h n
    unfold k_em
    rw [ih, h 96 (by decide), h 97 (by decide), h 98 (by decide), h 99 (by decide), h 100 (by decide), h 101 (by decide), k_ea_T (h 118 (by decide)), k_ff_T (h 86 (by decide))]
theorem k_hp_nf {M : Nat → Int → Int} : ∀ {n : Nat} {b : Int} {E : k_E} {s : k_s} {y : k_E × k_s}, k_hp M b n E s = .inr y → y.2.2.2.2 = s.2.2.2
  | 0, _, _, s, y, h => by cases h; rfl
  | n + 1, b, E, s, y, h => by
    obtain ⟨t, _, h2⟩ := k_b_inv (show k_b (k_rs M E (-1) (M 92 b)) (fun t => k_b (k_gv t 0 s) (fun y => k_hp M (b + 1) n ((M 91 b, 1 + y.2.1, y.2.2) :: E) y.1)) = .inr y from h)
    obtain ⟨z, h3, h4⟩ := k_b_inv h2
    exact (k_hp_nf h4).trans (k_gv_nf h3)
theorem k_hd_nf {M : Nat → Int → Int} {f : Int} {s : k_s} {y : k_E × k_s × k_h} (h : k_hd M f s = .inr y) : y.2.1.2.2.2 = s.2.2.2 := by
  unfold k_hd at h
  obtain ⟨ps, _, h2⟩ := k_b_inv h
  obtain ⟨s1, h3, h4⟩ := k_b_inv h2
  obtain ⟨z, h5, h6⟩ := k_b_inv h4
  obtain ⟨t, _, h8⟩ := k_b_inv h6
  cases h8
  have h9 := k_afs_nf h3
  exact (k_hp_nf h5).trans h9
/-- a function that is to be judged -/
def jH (tr : Nat → c_t) (M0 : Nat → Int → Int) (L g : Nat) : Prop := ∃ z N Lp Pp xr tt w, ((tr g).2.1 1 = z ∧ z ≤ 500) ∧ (∀ M' : Nat → Int → Int, (∀ x, x ≠ 81 → M' x = M0 x) → hB M' (tr g).2.2 (tr g).2.1 g z N Lp Pp xr) ∧ w_w ((tr g).2.1 2) (M0 86 g) ∧ aT (tr g).2.2 z ∧ (∀ n, 1 ≤ n → n < z → (tr g).2.2 (n * 9 + 0) = 5 → 0 ≤ (tr g).2.2 (n * 9 + 1)) ∧ (ht (tr g).2.2 L 1 z ((tr g).2.1 10) tt w ∧ w ≤ 252) ∧ e_nz (mf g M0) (tr g).2.2 z (e_D 1 z ((tr g).2.1 10)) (M0 95 g) ((tr g).2.1 10)
/-- the code of function g is the same -/
def jC (fs : Nat) (tr : Nat → c_t) (M0 : Nat → Int → Int) (L g : Nat) (M1 : Nat → Int → Int) (nf : Int → Int) : Prop := ∃ sh y, k_hd M0 g sh = .inr y ∧ ∀ m : Nat, M0 95 g < m → ∀ p, c_em (M1 ((tr g).1 + 175)) L ((tr g).2.1 10) p = k_em M0 fs nf m (eL (M0 88 g) y.1) (M0 95 g) p
theorem jC_go {fs : Nat} {tr : Nat → c_t} {M0 M1 M2 : Nat → Int → Int} {L g : Nat} {nf nf' : Int → Int} (hH : jH tr M0 L g) (h : jC fs tr M0 L g M1 nf) (hM : M2 ((tr g).1 + 175) = M1 ((tr g).1 + 175)) (hn : ∀ r', 700 * (g : Int) ≤ r' → r' < 700 * ((g : Int) + 1) → nf' r' = nf r') : jC fs tr M0 L g M2 nf' := by
  obtain ⟨sh, y, h1, h2⟩ := h
  obtain ⟨z, N, Lp, Pp, xr, tt, w, -, -, -, -, -, ⟨q1, -⟩, q2⟩ := hH
  refine ⟨sh, y, h1, fun m hm p => ?_⟩
  rw [hM, h2 m hm p, ← k_em_T (M' := mf g M0) (fun x hx => mf_ne hx) m, ← k_em_T (M' := mf g M0) (fun x hx => mf_ne hx) m]
  obtain ⟨c1, c2, c3, c4, c5, c6, c7⟩ := mf_c (f := (g : Int)) (M := M0)
  exact (k_em_fr q1 q2.1 (fun r' ⟨mm, m1, m2, m3, m4, m5, m6⟩ => hn r' (by omega) (by omega)) m _ p).symm
section
variable {ρ : Nat → Option xk} {e sl d : Nat} {M : Nat → Int → Int} {R : Nat → Int → Option Nat} {eX : Nat → Nat × (Nat → Int32)} {Q : xK}
variable {fs f : Nat} {tr : Nat → c_t} {t : Int} {s : k_s} {ow : Nat → Int}
set_option linter.unusedSimpArgs false in
set_option maxRecDepth 100000 in
set_option maxHeartbeats 4000000 in
theorem w_261b (hE : ∀ j, (eX j).1 ≤ 1000000) (hX : n_X eX) (hfs : fs ≤ 9) {M0 : Nat → Int → Int} {L : Nat} (hL : L ≤ 60) {N : Int → Nat} (hNf : ∀ g : Nat, g < fs → 2 * M0 95 g + 2 ≤ N g) (hHd : ∀ g, g < fs → jH tr M0 L g) (hOk : ∀ g : Nat, g < fs → ∃ s0 y, k_hd M0 g s0 = .inr y) {out : (Int × Int × Int) ⊕ k_s} (hQ1 : ∀ s', out = .inr s' → ∀ ρ1 e1 M1 R1 sl1 ow1, kG ρ e R sl ow ρ1 e1 R1 sl1 ow1 → jS fs tr t s' ρ1 e1 M1 R1 sl1 ow1 → sA s' → jF fs tr e ow M R M1 R1 → (∀ g, g < fs → jC fs tr M0 L g M1 s'.2.2.2) → xm_J tb_P eX tb_K0 174 (d + 800) 261 Q 181 [(0, .inr (.inr (some 9)))] [] (ρ1, e1, M1, R1, sl1)) (hQ2 : ∀ w a g, out = .inl (w, a, g) → jX fs tr w a g ρ e M R sl ow Q) : ∀ (n f : Nat) (s : k_s) (ρ1 : Nat → Option xk) (e1 : Nat) (M1 : Nat → Int → Int) (R1 : Nat → Int → Option Nat) (sl1 : Nat) (ow1 : Nat → Int), f + n = fs → k_c2 M0 fs N f n s = out → kG ρ e R sl ow ρ1 e1 R1 sl1 ow1 → jS fs tr t s ρ1 e1 M1 R1 sl1 ow1 → sA s → jF fs tr e ow M R M1 R1 → M1 8 4 = f → (∀ g, g < f → jC fs tr M0 L g M1 s.2.2.2) → xm_J tb_P eX tb_K0 174 (d + 800) 261 Q 93 [(0, .inr (.inr (some 9)))] [] (ρ1, e1, M1, R1, sl1) := by
  intro n
  induction n with
  | zero =>
    intro f s ρ1 e1 M1 R1 sl1 ow1 hf hk hg hS hA hF0 h4 hC0
    have b5 := hS.2.1
    have hff : f = fs := by omega
    have fin := hQ1 s hk.symm ρ1 e1 M1 R1 sl1 ow1 hg hS hA hF0 (fun g hg => hC0 g (by omega))
    refine xm_on hE (fun k pc => if Nat.beq k 261 && Nat.beq pc 181 then some [0] else if Nat.beq k 261 && Nat.beq pc 93 then some [0] else none) (fun _ => false) (fun F C hF hC => ?_)
    (conv => whnf)
    repeat (first | (refine br_t (by first | omega | (simp (disch := omega) only [w32_id, w64_id, x_up_p, x_up_s, x_up_o, x_fill_p, x_fill_i, x_fill_o, x_cpy_p, x_cpy_i, x_cpy_o, x_upR_p, x_upR_s, x_upR_o, x_zM_p, x_zR_p, x_set_p, x_set_s, tb_CM, tb_SM, xm_cats, xm_cat, List.length_cons, List.length_nil, x_cmp_ge, x_cmp_le, x_cmp_gt, x_cmp_lt, x_cmp_eq, not_true_eq_false, not_false_eq_true, true_and, and_true, Int.add_zero, Int.zero_add, Int.cast_ofNat_Int, Int.sub_zero, h4, b5] <;> omega) | (simp (disch := omega) only [w32_id, w64_id, x_up_p, x_up_s, x_up_o, x_fill_p, x_fill_i, x_fill_o, x_cpy_p, x_cpy_i, x_cpy_o, x_upR_p, x_upR_s, x_upR_o, x_zM_p, x_zR_p, x_set_p, x_set_s, tb_CM, tb_SM, xm_cats, xm_cat, List.length_cons, List.length_nil, x_cmp_ge, x_cmp_le, x_cmp_gt, x_cmp_lt, x_cmp_eq, not_true_eq_false, not_false_eq_true, true_and, and_true, Int.add_zero, Int.zero_add, Int.cast_ofNat_Int, Int.sub_zero, h4, b5]; done) | fail) ?_; (conv => whnf)) | (refine br_f (by first | omega | (simp (disch := omega) only [w32_id, w64_id, x_up_p, x_up_s, x_up_o, x_fill_p, x_fill_i, x_fill_o, x_cpy_p, x_cpy_i, x_cpy_o, x_upR_p, x_upR_s, x_upR_o, x_zM_p, x_zR_p, x_set_p, x_set_s, tb_CM, tb_SM, xm_cats, xm_cat, List.length_cons, List.length_nil, x_cmp_ge, x_cmp_le, x_cmp_gt, x_cmp_lt, x_cmp_eq, not_true_eq_false, not_false_eq_true, true_and, and_true, Int.add_zero, Int.zero_add, Int.cast_ofNat_Int, Int.sub_zero, h4, b5] <;> omega) | (simp (disch := omega) only [w32_id, w64_id, x_up_p, x_up_s, x_up_o, x_fill_p, x_fill_i, x_fill_o, x_cpy_p, x_cpy_i, x_cpy_o, x_upR_p, x_upR_s, x_upR_o, x_zM_p, x_zR_p, x_set_p, x_set_s, tb_CM, tb_SM, xm_cats, xm_cat, List.length_cons, List.length_nil, x_cmp_ge, x_cmp_le, x_cmp_gt, x_cmp_lt, x_cmp_eq, not_true_eq_false, not_false_eq_true, true_and, and_true, Int.add_zero, Int.zero_add, Int.cast_ofNat_Int, Int.sub_zero, h4, b5]; done) | fail) ?_; (conv => whnf)) | (refine sw_in (by first | omega | (simp (disch := omega) only [w32_id, w64_id, x_up_p, x_up_s, x_up_o, x_fill_p, x_fill_i, x_fill_o, x_cpy_p, x_cpy_i, x_cpy_o, x_upR_p, x_upR_s, x_upR_o, x_zM_p, x_zR_p, x_set_p, x_set_s, tb_CM, tb_SM, xm_cats, xm_cat, List.length_cons, List.length_nil, x_cmp_ge, x_cmp_le, x_cmp_gt, x_cmp_lt, x_cmp_eq, not_true_eq_false, not_false_eq_true, true_and, and_true, Int.add_zero, Int.zero_add, Int.cast_ofNat_Int, Int.sub_zero, h4, b5] <;> omega) | (simp (disch := omega) only [w32_id, w64_id, x_up_p, x_up_s, x_up_o, x_fill_p, x_fill_i, x_fill_o, x_cpy_p, x_cpy_i, x_cpy_o, x_upR_p, x_upR_s, x_upR_o, x_zM_p, x_zR_p, x_set_p, x_set_s, tb_CM, tb_SM, xm_cats, xm_cat, List.length_cons, List.length_nil, x_cmp_ge, x_cmp_le, x_cmp_gt, x_cmp_lt, x_cmp_eq, not_true_eq_false, not_false_eq_true, true_and, and_true, Int.add_zero, Int.zero_add, Int.cast_ofNat_Int, Int.sub_zero, h4, b5]; done) | fail) ?_; (conv => whnf)) | (refine sw_hit (by first | omega | (simp (disch := omega) only [w32_id, w64_id, x_up_p, x_up_s, x_up_o, x_fill_p, x_fill_i, x_fill_o, x_cpy_p, x_cpy_i, x_cpy_o, x_upR_p, x_upR_s, x_upR_o, x_zM_p, x_zR_p, x_set_p, x_set_s, tb_CM, tb_SM, xm_cats, xm_cat, List.length_cons, List.length_nil, x_cmp_ge, x_cmp_le, x_cmp_gt, x_cmp_lt, x_cmp_eq, not_true_eq_false, not_false_eq_true, true_and, and_true, Int.add_zero, Int.zero_add, Int.cast_ofNat_Int, Int.sub_zero, h4, b5] <;> omega) | (simp (disch := omega) only [w32_id, w64_id, x_up_p, x_up_s, x_up_o, x_fill_p, x_fill_i, x_fill_o, x_cpy_p, x_cpy_i, x_cpy_o, x_upR_p, x_upR_s, x_upR_o, x_zM_p, x_zR_p, x_set_p, x_set_s, tb_CM, tb_SM, xm_cats, xm_cat, List.length_cons, List.length_nil, x_cmp_ge, x_cmp_le, x_cmp_gt, x_cmp_lt, x_cmp_eq, not_true_eq_false, not_false_eq_true, true_and, and_true, Int.add_zero, Int.zero_add, Int.cast_ofNat_Int, Int.sub_zero, h4, b5]; done) | fail) ?_ (sw_vac (by first | omega | (simp (disch := omega) only [w32_id, w64_id, x_up_p, x_up_s, x_up_o, x_fill_p, x_fill_i, x_fill_o, x_cpy_p, x_cpy_i, x_cpy_o, x_upR_p, x_upR_s, x_upR_o, x_zM_p, x_zR_p, x_set_p, x_set_s, tb_CM, tb_SM, xm_cats, xm_cat, List.length_cons, List.length_nil, x_cmp_ge, x_cmp_le, x_cmp_gt, x_cmp_lt, x_cmp_eq, not_true_eq_false, not_false_eq_true, true_and, and_true, Int.add_zero, Int.zero_add, Int.cast_ofNat_Int, Int.sub_zero, h4, b5] <;> omega) | (simp (disch := omega) only [w32_id, w64_id, x_up_p, x_up_s, x_up_o, x_fill_p, x_fill_i, x_fill_o, x_cpy_p, x_cpy_i, x_cpy_o, x_upR_p, x_upR_s, x_upR_o, x_zM_p, x_zR_p, x_set_p, x_set_s, tb_CM, tb_SM, xm_cats, xm_cat, List.length_cons, List.length_nil, x_cmp_ge, x_cmp_le, x_cmp_gt, x_cmp_lt, x_cmp_eq, not_true_eq_false, not_false_eq_true, true_and, and_true, Int.add_zero, Int.zero_add, Int.cast_ofNat_Int, Int.sub_zero, h4, b5]; done) | fail)); (conv => whnf)) | (refine sw_next (by first | omega | (simp (disch := omega) only [w32_id, w64_id, x_up_p, x_up_s, x_up_o, x_fill_p, x_fill_i, x_fill_o, x_cpy_p, x_cpy_i, x_cpy_o, x_upR_p, x_upR_s, x_upR_o, x_zM_p, x_zR_p, x_set_p, x_set_s, tb_CM, tb_SM, xm_cats, xm_cat, List.length_cons, List.length_nil, x_cmp_ge, x_cmp_le, x_cmp_gt, x_cmp_lt, x_cmp_eq, not_true_eq_false, not_false_eq_true, true_and, and_true, Int.add_zero, Int.zero_add, Int.cast_ofNat_Int, Int.sub_zero, h4, b5] <;> omega) | (simp (disch := omega) only [w32_id, w64_id, x_up_p, x_up_s, x_up_o, x_fill_p, x_fill_i, x_fill_o, x_cpy_p, x_cpy_i, x_cpy_o, x_upR_p, x_upR_s, x_upR_o, x_zM_p, x_zR_p, x_set_p, x_set_s, tb_CM, tb_SM, xm_cats, xm_cat, List.length_cons, List.length_nil, x_cmp_ge, x_cmp_le, x_cmp_gt, x_cmp_lt, x_cmp_eq, not_true_eq_false, not_false_eq_true, true_and, and_true, Int.add_zero, Int.zero_add, Int.cast_ofNat_Int, Int.sub_zero, h4, b5]; done) | fail) ?_; (conv => whnf)) | (refine sw_def (by first | omega | (simp (disch := omega) only [w32_id, w64_id, x_up_p, x_up_s, x_up_o, x_fill_p, x_fill_i, x_fill_o, x_cpy_p, x_cpy_i, x_cpy_o, x_upR_p, x_upR_s, x_upR_o, x_zM_p, x_zR_p, x_set_p, x_set_s, tb_CM, tb_SM, xm_cats, xm_cat, List.length_cons, List.length_nil, x_cmp_ge, x_cmp_le, x_cmp_gt, x_cmp_lt, x_cmp_eq, not_true_eq_false, not_false_eq_true, true_and, and_true, Int.add_zero, Int.zero_add, Int.cast_ofNat_Int, Int.sub_zero, h4, b5] <;> omega) | (simp (disch := omega) only [w32_id, w64_id, x_up_p, x_up_s, x_up_o, x_fill_p, x_fill_i, x_fill_o, x_cpy_p, x_cpy_i, x_cpy_o, x_upR_p, x_upR_s, x_upR_o, x_zM_p, x_zR_p, x_set_p, x_set_s, tb_CM, tb_SM, xm_cats, xm_cat, List.length_cons, List.length_nil, x_cmp_ge, x_cmp_le, x_cmp_gt, x_cmp_lt, x_cmp_eq, not_true_eq_false, not_false_eq_true, true_and, and_true, Int.add_zero, Int.zero_add, Int.cast_ofNat_Int, Int.sub_zero, h4, b5]; done) | fail) ?_; (conv => whnf)) | (refine And.intro (by first | omega | (simp (disch := omega) only [w32_id, w64_id, x_up_p, x_up_s, x_up_o, x_fill_p, x_fill_i, x_fill_o, x_cpy_p, x_cpy_i, x_cpy_o, x_upR_p, x_upR_s, x_upR_o, x_zM_p, x_zR_p, x_set_p, x_set_s, tb_CM, tb_SM, xm_cats, xm_cat, List.length_cons, List.length_nil, x_cmp_ge, x_cmp_le, x_cmp_gt, x_cmp_lt, x_cmp_eq, not_true_eq_false, not_false_eq_true, true_and, and_true, Int.add_zero, Int.zero_add, Int.cast_ofNat_Int, Int.sub_zero, h4, b5] <;> omega) | (simp (disch := omega) only [w32_id, w64_id, x_up_p, x_up_s, x_up_o, x_fill_p, x_fill_i, x_fill_o, x_cpy_p, x_cpy_i, x_cpy_o, x_upR_p, x_upR_s, x_upR_o, x_zM_p, x_zR_p, x_set_p, x_set_s, tb_CM, tb_SM, xm_cats, xm_cat, List.length_cons, List.length_nil, x_cmp_ge, x_cmp_le, x_cmp_gt, x_cmp_lt, x_cmp_eq, not_true_eq_false, not_false_eq_true, true_and, and_true, Int.add_zero, Int.zero_add, Int.cast_ofNat_Int, Int.sub_zero, h4, b5]; done) | fail) ?_; (conv => whnf)))
    exact hF _ _ _ _ _ _ _ fin
  | succ n ih =>
    intro f s ρ1 e1 M1 R1 sl1 ow1 hf hk hg hS hA hF0 h4 hC0
    have b5 := hS.2.1
    have hff : f < fs := by omega
    obtain ⟨z, Nn, Lp, Pp, xr, tt, w, ⟨hz, hz5⟩, hB0, hww, haT, hP, ⟨hht, hw252⟩, hen⟩ := id (hHd f hff)
    have hBM := hB0 M0 (fun _ _ => rfl)
    have hBf := hB0 (mf f M0) (fun x hx => mf_ne hx)
    obtain ⟨n5, n88, n4, -⟩ := hBM.1
    have hin := ht_in hht
    have hTb : ∀ x, 86 ≤ x → x ≤ 118 → x ≠ 103 → mf f M0 x = M0 x := fun x a b c => mf_ne (by omega)
    have h95 : mf f M0 95 f = M0 95 f := by rw [mf_ne (by decide)]
    have hV : wV fs f tr (mf f M0) z Nn.length := ⟨⟨hz, hz5⟩, ⟨n5, by omega, by omega⟩, haT, hfs, fun g hgf => by
      obtain ⟨zg, Ng, Lg, Pg, xg, -, -, ⟨q1, q2⟩, q3, q4, -⟩ := hHd g hgf
      obtain ⟨s0, y0, q5⟩ := hOk g hgf
      exact ⟨by rw [mf_ne (by decide)]; exact q4, ⟨s0, y0, by rw [k_hd_T (fun x a b c => hTb x a (by omega) c)]; exact q5⟩, zg, Ng, Lg, Pg, xg, q1, q2, q3 (mf f M0) (fun x hx => mf_ne hx)⟩⟩
    have hcL := (cOL_all (t := t) hE hX hV (by rw [mf_ne (by decide)]; exact n88) hP L).2
    have hk' : (match k_hd M0 f s with
      | .inl z => (.inl (z.1, z.2, (f : Int)) : (Int × Int × Int) ⊕ k_s)
      | .inr y => match k_ck M0 fs f (N f) (some y.2.2) (M0 95 f) y.1 y.2.1 with
        | .inl z => .inl (z.1, z.2, (f : Int))
        | .inr x => k_c2 M0 fs N ((f : Int) + 1) n x.1) = out := hk
    refine xm_on hE (fun k pc => if Nat.beq k 261 && Nat.beq pc 146 then some [0] else if Nat.beq k 261 && Nat.beq pc 93 then some [0] else none) (fun _ => false) (fun F C hF hC => ?_)
    (conv => whnf)
    repeat (first | (refine br_t (by first | omega | (simp (disch := omega) only [w32_id, w64_id, x_up_p, x_up_s, x_up_o, x_fill_p, x_fill_i, x_fill_o, x_cpy_p, x_cpy_i, x_cpy_o, x_upR_p, x_upR_s, x_upR_o, x_zM_p, x_zR_p, x_set_p, x_set_s, tb_CM, tb_SM, xm_cats, xm_cat, List.length_cons, List.length_nil, x_cmp_ge, x_cmp_le, x_cmp_gt, x_cmp_lt, x_cmp_eq, not_true_eq_false, not_false_eq_true, true_and, and_true, Int.add_zero, Int.zero_add, Int.cast_ofNat_Int, Int.sub_zero, h4, b5] <;> omega) | (simp (disch := omega) only [w32_id, w64_id, x_up_p, x_up_s, x_up_o, x_fill_p, x_fill_i, x_fill_o, x_cpy_p, x_cpy_i, x_cpy_o, x_upR_p, x_upR_s, x_upR_o, x_zM_p, x_zR_p, x_set_p, x_set_s, tb_CM, tb_SM, xm_cats, xm_cat, List.length_cons, List.length_nil, x_cmp_ge, x_cmp_le, x_cmp_gt, x_cmp_lt, x_cmp_eq, not_true_eq_false, not_false_eq_true, true_and, and_true, Int.add_zero, Int.zero_add, Int.cast_ofNat_Int, Int.sub_zero, h4, b5]; done) | fail) ?_; (conv => whnf)) | (refine br_f (by first | omega | (simp (disch := omega) only [w32_id, w64_id, x_up_p, x_up_s, x_up_o, x_fill_p, x_fill_i, x_fill_o, x_cpy_p, x_cpy_i, x_cpy_o, x_upR_p, x_upR_s, x_upR_o, x_zM_p, x_zR_p, x_set_p, x_set_s, tb_CM, tb_SM, xm_cats, xm_cat, List.length_cons, List.length_nil, x_cmp_ge, x_cmp_le, x_cmp_gt, x_cmp_lt, x_cmp_eq, not_true_eq_false, not_false_eq_true, true_and, and_true, Int.add_zero, Int.zero_add, Int.cast_ofNat_Int, Int.sub_zero, h4, b5] <;> omega) | (simp (disch := omega) only [w32_id, w64_id, x_up_p, x_up_s, x_up_o, x_fill_p, x_fill_i, x_fill_o, x_cpy_p, x_cpy_i, x_cpy_o, x_upR_p, x_upR_s, x_upR_o, x_zM_p, x_zR_p, x_set_p, x_set_s, tb_CM, tb_SM, xm_cats, xm_cat, List.length_cons, List.length_nil, x_cmp_ge, x_cmp_le, x_cmp_gt, x_cmp_lt, x_cmp_eq, not_true_eq_false, not_false_eq_true, true_and, and_true, Int.add_zero, Int.zero_add, Int.cast_ofNat_Int, Int.sub_zero, h4, b5]; done) | fail) ?_; (conv => whnf)) | (refine sw_in (by first | omega | (simp (disch := omega) only [w32_id, w64_id, x_up_p, x_up_s, x_up_o, x_fill_p, x_fill_i, x_fill_o, x_cpy_p, x_cpy_i, x_cpy_o, x_upR_p, x_upR_s, x_upR_o, x_zM_p, x_zR_p, x_set_p, x_set_s, tb_CM, tb_SM, xm_cats, xm_cat, List.length_cons, List.length_nil, x_cmp_ge, x_cmp_le, x_cmp_gt, x_cmp_lt, x_cmp_eq, not_true_eq_false, not_false_eq_true, true_and, and_true, Int.add_zero, Int.zero_add, Int.cast_ofNat_Int, Int.sub_zero, h4, b5] <;> omega) | (simp (disch := omega) only [w32_id, w64_id, x_up_p, x_up_s, x_up_o, x_fill_p, x_fill_i, x_fill_o, x_cpy_p, x_cpy_i, x_cpy_o, x_upR_p, x_upR_s, x_upR_o, x_zM_p, x_zR_p, x_set_p, x_set_s, tb_CM, tb_SM, xm_cats, xm_cat, List.length_cons, List.length_nil, x_cmp_ge, x_cmp_le, x_cmp_gt, x_cmp_lt, x_cmp_eq, not_true_eq_false, not_false_eq_true, true_and, and_true, Int.add_zero, Int.zero_add, Int.cast_ofNat_Int, Int.sub_zero, h4, b5]; done) | fail) ?_; (conv => whnf)) | (refine sw_hit (by first | omega | (simp (disch := omega) only [w32_id, w64_id, x_up_p, x_up_s, x_up_o, x_fill_p, x_fill_i, x_fill_o, x_cpy_p, x_cpy_i, x_cpy_o, x_upR_p, x_upR_s, x_upR_o, x_zM_p, x_zR_p, x_set_p, x_set_s, tb_CM, tb_SM, xm_cats, xm_cat, List.length_cons, List.length_nil, x_cmp_ge, x_cmp_le, x_cmp_gt, x_cmp_lt, x_cmp_eq, not_true_eq_false, not_false_eq_true, true_and, and_true, Int.add_zero, Int.zero_add, Int.cast_ofNat_Int, Int.sub_zero, h4, b5] <;> omega) | (simp (disch := omega) only [w32_id, w64_id, x_up_p, x_up_s, x_up_o, x_fill_p, x_fill_i, x_fill_o, x_cpy_p, x_cpy_i, x_cpy_o, x_upR_p, x_upR_s, x_upR_o, x_zM_p, x_zR_p, x_set_p, x_set_s, tb_CM, tb_SM, xm_cats, xm_cat, List.length_cons, List.length_nil, x_cmp_ge, x_cmp_le, x_cmp_gt, x_cmp_lt, x_cmp_eq, not_true_eq_false, not_false_eq_true, true_and, and_true, Int.add_zero, Int.zero_add, Int.cast_ofNat_Int, Int.sub_zero, h4, b5]; done) | fail) ?_ (sw_vac (by first | omega | (simp (disch := omega) only [w32_id, w64_id, x_up_p, x_up_s, x_up_o, x_fill_p, x_fill_i, x_fill_o, x_cpy_p, x_cpy_i, x_cpy_o, x_upR_p, x_upR_s, x_upR_o, x_zM_p, x_zR_p, x_set_p, x_set_s, tb_CM, tb_SM, xm_cats, xm_cat, List.length_cons, List.length_nil, x_cmp_ge, x_cmp_le, x_cmp_gt, x_cmp_lt, x_cmp_eq, not_true_eq_false, not_false_eq_true, true_and, and_true, Int.add_zero, Int.zero_add, Int.cast_ofNat_Int, Int.sub_zero, h4, b5] <;> omega) | (simp (disch := omega) only [w32_id, w64_id, x_up_p, x_up_s, x_up_o, x_fill_p, x_fill_i, x_fill_o, x_cpy_p, x_cpy_i, x_cpy_o, x_upR_p, x_upR_s, x_upR_o, x_zM_p, x_zR_p, x_set_p, x_set_s, tb_CM, tb_SM, xm_cats, xm_cat, List.length_cons, List.length_nil, x_cmp_ge, x_cmp_le, x_cmp_gt, x_cmp_lt, x_cmp_eq, not_true_eq_false, not_false_eq_true, true_and, and_true, Int.add_zero, Int.zero_add, Int.cast_ofNat_Int, Int.sub_zero, h4, b5]; done) | fail)); (conv => whnf)) | (refine sw_next (by first | omega | (simp (disch := omega) only [w32_id, w64_id, x_up_p, x_up_s, x_up_o, x_fill_p, x_fill_i, x_fill_o, x_cpy_p, x_cpy_i, x_cpy_o, x_upR_p, x_upR_s, x_upR_o, x_zM_p, x_zR_p, x_set_p, x_set_s, tb_CM, tb_SM, xm_cats, xm_cat, List.length_cons, List.length_nil, x_cmp_ge, x_cmp_le, x_cmp_gt, x_cmp_lt, x_cmp_eq, not_true_eq_false, not_false_eq_true, true_and, and_true, Int.add_zero, Int.zero_add, Int.cast_ofNat_Int, Int.sub_zero, h4, b5] <;> omega) | (simp (disch := omega) only [w32_id, w64_id, x_up_p, x_up_s, x_up_o, x_fill_p, x_fill_i, x_fill_o, x_cpy_p, x_cpy_i, x_cpy_o, x_upR_p, x_upR_s, x_upR_o, x_zM_p, x_zR_p, x_set_p, x_set_s, tb_CM, tb_SM, xm_cats, xm_cat, List.length_cons, List.length_nil, x_cmp_ge, x_cmp_le, x_cmp_gt, x_cmp_lt, x_cmp_eq, not_true_eq_false, not_false_eq_true, true_and, and_true, Int.add_zero, Int.zero_add, Int.cast_ofNat_Int, Int.sub_zero, h4, b5]; done) | fail) ?_; (conv => whnf)) | (refine sw_def (by first | omega | (simp (disch := omega) only [w32_id, w64_id, x_up_p, x_up_s, x_up_o, x_fill_p, x_fill_i, x_fill_o, x_cpy_p, x_cpy_i, x_cpy_o, x_upR_p, x_upR_s, x_upR_o, x_zM_p, x_zR_p, x_set_p, x_set_s, tb_CM, tb_SM, xm_cats, xm_cat, List.length_cons, List.length_nil, x_cmp_ge, x_cmp_le, x_cmp_gt, x_cmp_lt, x_cmp_eq, not_true_eq_false, not_false_eq_true, true_and, and_true, Int.add_zero, Int.zero_add, Int.cast_ofNat_Int, Int.sub_zero, h4, b5] <;> omega) | (simp (disch := omega) only [w32_id, w64_id, x_up_p, x_up_s, x_up_o, x_fill_p, x_fill_i, x_fill_o, x_cpy_p, x_cpy_i, x_cpy_o, x_upR_p, x_upR_s, x_upR_o, x_zM_p, x_zR_p, x_set_p, x_set_s, tb_CM, tb_SM, xm_cats, xm_cat, List.length_cons, List.length_nil, x_cmp_ge, x_cmp_le, x_cmp_gt, x_cmp_lt, x_cmp_eq, not_true_eq_false, not_false_eq_true, true_and, and_true, Int.add_zero, Int.zero_add, Int.cast_ofNat_Int, Int.sub_zero, h4, b5]; done) | fail) ?_; (conv => whnf)) | (refine And.intro (by first | omega | (simp (disch := omega) only [w32_id, w64_id, x_up_p, x_up_s, x_up_o, x_fill_p, x_fill_i, x_fill_o, x_cpy_p, x_cpy_i, x_cpy_o, x_upR_p, x_upR_s, x_upR_o, x_zM_p, x_zR_p, x_set_p, x_set_s, tb_CM, tb_SM, xm_cats, xm_cat, List.length_cons, List.length_nil, x_cmp_ge, x_cmp_le, x_cmp_gt, x_cmp_lt, x_cmp_eq, not_true_eq_false, not_false_eq_true, true_and, and_true, Int.add_zero, Int.zero_add, Int.cast_ofNat_Int, Int.sub_zero, h4, b5] <;> omega) | (simp (disch := omega) only [w32_id, w64_id, x_up_p, x_up_s, x_up_o, x_fill_p, x_fill_i, x_fill_o, x_cpy_p, x_cpy_i, x_cpy_o, x_upR_p, x_upR_s, x_upR_o, x_zM_p, x_zR_p, x_set_p, x_set_s, tb_CM, tb_SM, xm_cats, xm_cat, List.length_cons, List.length_nil, x_cmp_ge, x_cmp_le, x_cmp_gt, x_cmp_lt, x_cmp_eq, not_true_eq_false, not_false_eq_true, true_and, and_true, Int.add_zero, Int.zero_add, Int.cast_ofNat_Int, Int.sub_zero, h4, b5]; done) | fail) ?_; (conv => whnf)))
    try (refine x_go (x_rc rfl (by first | assumption | exact c_E_kd (by assumption) | exact wE_kd (by assumption) | exact c_T_kd (by assumption) | exact c_S_kd (by assumption) | exact (‹c_E _ _ _›).1 | exact tb_dyn (‹c_T _ _ _›).1 | exact (‹c_S _ _ _›).1.1) rfl) ?_; (conv => whnf))
    refine hC _ _ _ _ _ (w_262 (f := f) hE hS hff hfs h4 (fun M2 R2 hg2 hS2 hF2 m2 => ?_))
    have G2 := kG_tr hg hg2
    have F2 := jF_tr hg hF0 hF2
    (conv => whnf)
    try (refine x_go (x_rc rfl (by first | assumption | exact c_E_kd (by assumption) | exact wE_kd (by assumption) | exact c_T_kd (by assumption) | exact c_S_kd (by assumption) | exact (‹c_E _ _ _›).1 | exact tb_dyn (‹c_T _ _ _›).1 | exact (‹c_S _ _ _›).1.1) rfl) ?_; (conv => whnf))
    refine hC _ _ _ _ _ (w_263 hE hS2 (by decide) (fun ρ3 e3 M3 R3 sl3 ow3 y hg3 hS3 hf3 hy3 => ?_))
    have G3 := kG_tr G2 hg3
    have F3 := jF_tr G2 F2 (jF_w hff hf3 (Int.le_refl _) (Int.le_refl _) (fun _ _ q => q))
    have hz0 : (k_bk 0 0 s).1 0 = 0 ∧ (k_bk 0 0 s).1 1 = 0 := ⟨by show t_u (t_u s.1 0 0) 1 0 0 = 0; rw [t_u_o (by decide), t_u_s rfl], by show t_u (t_u s.1 0 0) 1 0 1 = 0; exact t_u_s rfl⟩
    have h34 : M3 8 4 = f := hS3.2.1.2.2.2.1
    (conv => whnf)
    try (refine x_go (x_rc rfl (by first | assumption | exact c_E_kd (by assumption) | exact wE_kd (by assumption) | exact c_T_kd (by assumption) | exact c_S_kd (by assumption) | exact (‹c_E _ _ _›).1 | exact tb_dyn (‹c_T _ _ _›).1 | exact (‹c_S _ _ _›).1.1) rfl) ?_; (conv => whnf))
    refine hC _ _ _ _ _ (w_264 (M0 := M0) (ys := y) hE hz hz5 hBM hS3 hz0 hy3 (fun u hu ρ4 e4 M4 R4 sl4 ow4 G hg4 hS4 hf4 hnm hGl hGl0 hy4 hh4 hw4 => ?_) (fun w a hu => ?_))
    · rw [k_hd_bk] at hu
      have G4 := kG_tr G3 hg4
      have F4 := jF_tr G3 F3 (jF_w hff hf4 (Int.le_refl _) (Int.le_refl _) (fun _ _ q => q))
      have k24 := hS4.2.2.2.2.2.2.2.1.2.1
      obtain ⟨t1, t2, t3, t4, t5, t6⟩ := wS_T hS4 hff
      obtain ⟨c1, c2, c3⟩ := id t1
      have f10 : M4 ((tr f).1 + 174) 10 = (tr f).2.1 10 := by rw [t3]
      have h44 : M4 8 4 = f := hS4.2.1.2.2.2.1
      have hgl := gE_len hnm.1
      have hN4 : wN Nn.length u.2.1 G u.1 := ⟨hnm.1, hnm.2.1, hnm.2.2, by omega, by omega, kR_hd sA_R hu hA⟩
      have eqc : k_ck (mf f M0) fs f (N f) (some u.2.2) (M0 95 f) u.1 u.2.1 = k_ck M0 fs f (N f) (some u.2.2) (M0 95 f) u.1 u.2.1 := k_ck_T hTb _ _ _ _ _
      (conv => whnf)
      rw [k24]
      (conv => whnf)
      rw [tb_dyn c1]
      (conv => whnf)
      refine hC _ _ _ _ _ (xm_castc (hcL (N f) 1 z ((tr f).2.1 10) (M0 95 f) tt w _ u.1 u.2.1 G G.length 1 ρ4 e4 M4 R4 sl4 ow4 y 0 u.2.2 _ _ hht (Int.le_refl _) (Int.le_refl _) hen (hNf f hff) hS4 hN4 (by omega) (by omega) (by omega) hy4 hh4 hw4 (by omega) (fun x hx ρ5 e5 M5 R5 sl5 ow5 hR => ?_) (fun w a hx => ?_)) (by rw [f10]) rfl)
      · rw [eqc] at hx
        obtain ⟨r1, r2, r3, r4, r5⟩ := id hR
        have G5 := kG_tr G4 r1
        have F5 := jF_tr G4 F4 (jF_w hff r3 (by omega) (by omega) (fun _ _ q => q))
        have h54 : M5 8 4 = f := r2.2.1.2.2.2.1
        obtain ⟨⟨a1, a2, a3⟩, b5', ⟨g1, g2, g3⟩, i1, j1, k1, l1⟩ := jS_w r2
        have n1 : ∀ p, p ≠ 8 → x_up M5 8 4 ((f : Int) + 1) p = M5 p := fun p hp => x_up_ne hp
        have n8 : ∀ j, j ≠ 4 → x_up M5 8 4 ((f : Int) + 1) 8 j = M5 8 j := fun j hj => x_up_o hj
        have hJ5 : jS fs tr t x.1 ρ5 e5 (x_up M5 8 4 ((f : Int) + 1)) R5 sl5 ow5 := ⟨⟨a1, (kG_rf (sl := sl5) (ow := ow5)).2.2.2.2 t M5 _ a2, a3⟩, by rw [n8 3 (by decide)]; exact b5', ⟨gS_fr g1 (fun j _ _ => by rw [n1 9 (by decide)]) (n1 14 (by decide)) (n1 15 (by decide)), g2, by rw [n1 9 (by decide)]; exact g3⟩, ⟨by rw [n8 12 (by decide)]; exact i1.1, by rw [n8 13 (by decide)]; exact i1.2⟩, j1, k1, wT_go l1 (kG_rf (sl := sl5)) (fun _ => rfl) (fun k hk => n1 _ (by omega)) (fun k hk => by rw [n1 _ (by omega)]; exact (l1.1 k hk).2.2)⟩
        have F6 := jF_tr G5 F5 (jF_89 (fs := fs) (tr := tr) (e := e5) (ow := ow5) (R := R5) (M1 := x_up M5 8 4 ((f : Int) + 1)) (M := M5) (fun p p8 _ => n1 p p8) (n8 3 (by decide)) (n8 14 (by decide)))
        have nf4 : u.2.1.2.2.2 = s.2.2.2 := k_hd_nf hu
        obtain ⟨mc1, mc2, mc3, mc4, mc5, mc6, mc7⟩ := mf_c (f := (f : Int)) (M := M0)
        have hC1 : ∀ g, g < f + 1 → jC fs tr M0 L g (x_up M5 8 4 ((f : Int) + 1)) x.1.2.2.2 := fun g hgf => by
          by_cases hgf' : g = f
          · subst hgf'
            refine ⟨s, u, hu, fun m hm p => ?_⟩
            rw [n1 _ (by omega), r4 m hm p, k_em_T (fun x hx => mf_ne hx) m, n88]
          · have hgl : g < f := by omega
            obtain ⟨⟨w1, w2, w3, w4, w5⟩, -, -⟩ := hS.2.2.2.2.2.2.1 g (by omega)
            have wk1 : wK e1 0 0 ow1 ((tr g).1 + 175) := ⟨by omega, by omega, fun _ => .inl (by omega)⟩
            have ne : (tr g).1 + 175 ≠ (tr f).1 + 175 := by
              have := hS.2.2.2.2.2.2.2 g f (by omega) hff (by omega)
              omega
            have wk2 := wK_g hg2 (Int.le_refl _) (Int.le_refl _) wk1
            have wk3 := wK_g hg3 (Int.le_refl _) (Int.le_refl _) wk2
            have wk4 := wK_g hg4 (tn1 := (G.length : Int)) (st1 := 1) (by omega) (by decide) wk3
            refine jC_go (hHd g (by omega)) (hC0 g hgl) ?_ (fun r' q1 q2 => ?_)
            · rw [n1 _ (by omega), r3.1 _ wk4 (fun q => q) ne, hf4.1 _ wk3 (fun q => q) ne, hf3.1 _ wk2 (fun q => q) ne, m2 _ (by omega) (by omega)]
            · rw [r5 r' (fun ⟨mm, m1, m2, m3, m4, m5, m6⟩ => by omega), nf4]
        have nx := ih (f + 1) x.1 ρ5 e5 (x_up M5 8 4 ((f : Int) + 1)) R5 sl5 ow5 (by omega) (by rw [← hk', hu]; show _ = (match k_ck M0 fs f (N f) (some u.2.2) (M0 95 f) u.1 u.2.1 with | .inl z => (.inl (z.1, z.2, (f : Int)) : (Int × Int × Int) ⊕ k_s) | .inr x => k_c2 M0 fs N ((f : Int) + 1) n x.1); rw [hx]; rfl) G5 hJ5 (kR_ck sA_R hx (kR_hd sA_R hu hA)) F6 (by rw [x_up_s rfl]; omega) hC1
        have st4 : x_up M5 8 4 (w32 (M5 8 4 + 1)) = x_up M5 8 4 ((f : Int) + 1) := by
          rw [h54]
          simp (disch := omega) only [w32_id]
        (conv => whnf)
        first | exact hF _ _ _ _ _ _ _ nx | (rw [st4]; exact hF _ _ _ _ _ _ _ nx)
      · rw [eqc] at hx
        intro ρ5 e5 R5 sl5 ow5 M5 q1 q2 q3 q4 q5 q6 q7
        have G5 := kG_tr G4 q1
        have fin := w_261h (d := d) (ρ1 := ρ5) (e1 := e5) (M1 := M5) (R1 := R5) (sl1 := sl5) (ow1 := ow5) hE (hQ2 w a f (by rw [← hk', hu]; show (match k_ck M0 fs f (N f) (some u.2.2) (M0 95 f) u.1 u.2.1 with | .inl z => _ | .inr x => _) = _; rw [hx])) G5 q2 q3 q6 (by rw [q7.2.2 8 1 ⟨by omega, by decide, by decide, by decide, by decide, fun q => absurd q (by decide)⟩]; exact hS4.2.2.2.2.2.2.2.1.1) (jF_tr G4 F4 (jF_x hff q7)) q4 q5 (by rw [q7.2.1 4 (by decide) (by decide) (by decide) (by decide) (by decide)]; exact h44)
        (conv => whnf)
        refine And.intro (by decide) ?_
        (conv => whnf)
        exact hF _ _ _ _ _ _ _ fin
    · rw [k_hd_bk] at hu
      intro ρ4 e4 R4 sl4 ow4 M4 q1 q2 q3 q4 q5 q6 q7
      have G4 := kG_tr G3 q1
      have fin := w_261h (d := d) (ρ1 := ρ4) (e1 := e4) (M1 := M4) (R1 := R4) (sl1 := sl4) (ow1 := ow4) hE (hQ2 w a f (by rw [← hk', hu])) G4 q2 q3 q6 (by rw [q7.2.2 8 1 ⟨by omega, by decide, by decide, by decide, by decide, fun q => absurd q (by decide)⟩]; exact hS3.2.2.2.2.2.2.2.1.1) (jF_tr G3 F3 (jF_x hff q7)) q4 q5 (by rw [q7.2.1 4 (by decide) (by decide) (by decide) (by decide) (by decide)]; exact h34)
      (conv => whnf)
      refine And.intro (by decide) ?_
      (conv => whnf)
      exact hF _ _ _ _ _ _ _ fin
end

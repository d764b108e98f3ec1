/-! CALLS in the class: what is asked, what comes out -/
theorem gE_V {v : Int} : ∀ {G : List c_g} {E : k_E}, gE G E → eW v E → ∀ u ∈ G, k_in 1000000 u.2.2.2.1 u.2.2.2.2 ∧ u.2.2.2.2 = 0
  | [], [], _, _, u, hu => by cases hu
  | g :: G, x :: E, ⟨⟨h1, h2, h3, h4⟩, h5⟩, hw, u, hu => by
    rcases List.mem_cons.mp hu with rfl | hu
    · have := (hw x (List.mem_cons_self ..)).1
      refine ⟨?_, h4⟩
      rw [h3, h4]
      exact this
    · exact gE_V h5 (fun y hy => hw y (List.mem_cons_of_mem _ hy)) u hu
theorem k_rp_W {M : Nat → Int → Int} {E : k_E} {iw cp v : Int} (hE : eW v E) : ∀ {n : Nat} {p : Int} {l : List (Int × (Int → Int) × Int)}, k_rp M E iw cp p n = .inr l → (∀ u ∈ l, ∀ k, v ≤ k → k < 24 → u.2.1 k = 0) ∧ (iw = 0 → ∀ u ∈ l, u.2.2 = 0)
  | 0, p, l, h => by
    cases h
    exact ⟨fun u hu => (by cases hu), fun _ u hu => by cases hu⟩
  | n + 1, p, l, h => by
    obtain ⟨a, b, l', q1, q2, q3⟩ := k_rp_h h
    have hl : l = (M 111 p, k_p b.1 a.1 (-1), b.2 - a.2) :: l' := by
      have h' : k_b (k_xx M E iw cp (M 110 p)) (fun a => k_b (k_xx M E iw cp (M 112 p)) (fun b => k_b (k_rp M E iw cp (p + 1) n) (fun l => .inr ((M 111 p, k_p b.1 a.1 (-1), b.2 - a.2) :: l)))) = .inr l := h
      rw [q1] at h'
      have h2 : k_b (k_xx M E iw cp (M 112 p)) (fun b => k_b (k_rp M E iw cp (p + 1) n) (fun l => .inr ((M 111 p, k_p b.1 a.1 (-1), b.2 - a.2) :: l))) = .inr l := h'
      rw [q2] at h2
      have h3 : k_b (k_rp M E iw cp (p + 1) n) (fun l => .inr ((M 111 p, k_p b.1 a.1 (-1), b.2 - a.2) :: l)) = .inr l := h2
      rw [q3] at h3
      cases h3
      rfl
    obtain ⟨i1, i2⟩ := k_rp_W hE q3
    obtain ⟨a1, a2, -⟩ := k_xx_z hE q1
    obtain ⟨b1, b2, -⟩ := k_xx_z hE q2
    rw [hl]
    refine ⟨fun u hu => ?_, fun hi u hu => ?_⟩
    · rcases List.mem_cons.mp hu with rfl | hu
      · intro k k0 k1
        show b.1 k + -1 * a.1 k = 0
        rw [a1 k k0 k1, b1 k k0 k1]
        rfl
      · exact i1 u hu
    · rcases List.mem_cons.mp hu with rfl | hu
      · show b.2 - a.2 = 0
        rw [a2 hi, b2 hi]
        rfl
      · exact i2 hi u hu
theorem k_rs_W {M : Nat → Int → Int} {E : k_E} {cp v t : Int} {th : k_h} (hE : eW v E) (h : k_rs M E cp t = .inr th) : hWv v th := by
  unfold k_rs at h
  by_cases q : M 113 t = 1 ∨ M 113 t = 3
  · rw [if_pos q] at h
    rcases h1 : k_xx M E 0 cp (M 114 t) with u | y
    · rw [h1] at h; cases h
    · rw [h1] at h
      cases h
      exact ⟨fun _ => (k_xx_z hE h1).1, fun u hu => by cases hu⟩
  · rw [if_neg q] at h
    by_cases q2 : M 113 t = 2
    · rw [if_pos q2] at h
      rcases h1 : k_rp M E (M 115 t) cp (M 116 t) (M 117 t).toNat with u | l
      · rw [h1] at h; cases h
      · rw [h1] at h
        cases h
        exact ⟨fun z => by dsimp only at z; omega, (k_rp_W hE h1).1⟩
    · rw [if_neg q2] at h
      cases h
      exact ⟨fun z => by dsimp only at z; omega, fun u hu => by cases hu⟩
theorem k_rs_3 {M : Nat → Int → Int} {E : k_E} {cp t : Int} {th : k_h} (h : k_rs M E cp t = .inr th) : th.1 = 3 ↔ M 113 t = 3 := by
  unfold k_rs at h
  by_cases q : M 113 t = 1 ∨ M 113 t = 3
  · rw [if_pos q] at h
    rcases h1 : k_xx M E 0 cp (M 114 t) with u | y
    · rw [h1] at h; cases h
    · rw [h1] at h
      cases h
      exact Iff.rfl
  · rw [if_neg q] at h
    by_cases q2 : M 113 t = 2
    · rw [if_pos q2] at h
      rcases h1 : k_rp M E (M 115 t) cp (M 116 t) (M 117 t).toNat with u | l
      · rw [h1] at h; cases h
      · rw [h1] at h
        cases h
        exact ⟨fun z => by dsimp only at z; omega, fun z => by omega⟩
    · rw [if_neg q2] at h
      cases h
      exact ⟨fun z => by dsimp only at z; omega, fun z => by omega⟩
def paV (M : Nat → Int → Int) : Int → List ((Int × Int) × z_T) → Prop
  | _, [] => True
  | b, y :: l => (M 91 b = y.1.2 ∧ tyV M (M 92 b) y.2) ∧ paV M (b + 1) l
/-- a function's header on both sides -/
def hB (M : Nat → Int → Int) (T F : Int → Int) (g z : Int) (N : List (Int × Int)) (Lp : List z_p) (Pp : List ((Int × Int) × z_T)) (xr : z_T) : Prop :=
  (F 5 = N.length ∧ M 88 g = N.length ∧ N.length ≤ 4 ∧ nmW T z (F 4) N ∧ nmR M 87 (4 * g) N ∧ ∀ w ∈ N, w_w w.1 w.2)
  ∧ (M 90 g = Lp.length ∧ Lp.length ≤ 4 ∧ psC T 1 z (F 6) Lp ∧ psR M (M 89 g) Lp ∧ ∀ y ∈ Lp, z_pk y)
  ∧ (F 8 = Pp.length ∧ M 93 g = Pp.length ∧ Pp.length ≤ 5 ∧ paW T z (F 7) Pp ∧ paV M (5 * g) Pp ∧ ∀ y ∈ Pp, w_w y.1.1 y.1.2 ∧ z_Tk y.2)
  ∧ (tyC T 1 z (F 9) xr ∧ tyV M (M 94 g) xr ∧ z_Tk xr)
section
variable {ρ : Nat → Option xk} {e sl d : Nat} {M : Nat → Int → Int} {R : Nat → Int → Option Nat} {eX : Nat → Nat × (Nat → Int32)} {Q : xK}
variable {ow : Nat → Int} {fs f g : Nat} {tr : Nat → c_t} {t z pl : Int} {s s0 : k_s} {G G1 : List c_g} {E E1 : k_E} {tn st : Int} {M0 : Nat → Int → Int} {x y : Nat} {ρ1 : Nat → Option xk} {e1 : Nat} {M1 : Nat → Int → Int} {R1 : Nat → Int → Option Nat} {sl1 : Nat} {ow1 : Nat → Int}
-- from the result on
set_option linter.unusedSimpArgs false in
set_option maxRecDepth 100000 in
set_option maxHeartbeats 4000000 in
theorem w_283c (hE : ∀ j, (eX j).1 ≤ 1000000) {xr : z_T} (hS0 : wS fs tr f t s0 G tn st ρ e M R sl ow) (hg : kG ρ e R sl ow ρ1 e1 R1 sl1 ow1) (hS : wS fs tr f t s (G1 ++ G) tn (st + 1) ρ1 e1 M1 R1 sl1 ow1) (hf : wF (xE x) ((tr f).1 + 175) 0 0 G.length e tn st ow M R M1 R1) (hgf : g < fs) (hz : (tr g).2.1 1 = z) (hz5 : z ≤ 500) (hy : sY ρ1 e1 R1 ow1 st y) (hx : wE ρ e R ow tn G x) (hxG1 : ∀ u ∈ G1, u.2.1 ≠ x) (htn : tn + 2 < 300) (hGE : gE G1 E1) (hW : eW (s.1 0) E1) (hGV : ∀ u ∈ G, k_in 1000000 u.2.2.2.1 u.2.2.2.2 ∧ u.2.2.2.2 = 0) (hl : G.length ≤ 14 ∧ G1.length ≤ 9) (hr : tyC (tr g).2.2 1 z ((tr g).2.1 9) xr) (hrV : tyV M0 (M0 94 g) xr) (hrk : z_Tk xr) (hrF : tF G1 xr) (hpl : 0 ≤ pl) (hQ1 : ∀ v, k_b (k_rs M0 E1 pl (M0 94 g)) (fun th => k_gv th pl s) = .inr v → ∀ ρ2 e2 M2 R2 sl2 ow2, kG ρ e R sl ow ρ2 e2 R2 sl2 ow2 → wS fs tr f t v.1 G tn st ρ2 e2 M2 R2 sl2 ow2 → wF (xE x) ((tr f).1 + 175) 0 0 G.length e tn st ow M R M2 R2 → eC M2 x v.2.1 v.2.2 0 → k_ok (v.1.1 0) v.2.1 v.2.2 → Q (.inl none) (ρ2, e2, M2, R2, sl2)) (hQ2 : ∀ w a, k_b (k_rs M0 E1 pl (M0 94 g)) (fun th => k_gv th pl s) = .inl (w, a) → wX fs tr ((tr f).1 + 175) w a ρ e M R sl ow Q) : xm_J tb_P eX tb_K0 174 (d + 9) 283 Q 173 [(0, .inr (.inr (some 9))), (1, .inr (.inr (some ((tr g).1 + 175)))), (2, .inl pl), (4, .inr (.inr (some (x + 1)))), (5, .inr (.inr (some (y + 1)))), (6, .inl (G.length : Int))] [] (ρ1, e1, M1, R1, sl1) := by
  have hc0 := hS0.2.2.1
  have hc1 := hS.2.2.1
  obtain ⟨u1, u2, u3, u4, u5, u6⟩ := wS_T hS hgf
  obtain ⟨t1, t2, t3⟩ := id u1
  have u9 : M1 ((tr g).1 + 174) 9 = (tr g).2.1 9 := by rw [u3]
  have hgv : ∀ u ∈ G1 ++ G, k_in 1000000 u.2.2.2.1 u.2.2.2.2 ∧ u.2.2.2.2 = 0 := fun u hu => by
    rcases List.mem_append.mp hu with hu | hu
    · exact gE_V hGE hW u hu
    · exact hGV u hu
  have eqs : c_rs (G1 ++ G) pl xr = k_rs M0 E1 pl (M0 94 g) := by rw [c_rs_app hrF]; exact c_rs_k hGE (.inr ⟨hpl, rfl⟩) hrV hrk
  have xX := xE_0 hx
  have nS : ∀ p, wK e tn st ow p → ¬ xS ow1 st p := fun p kk q => by
    have h1 := kk.2.2 q.1
    rw [← hg.2.2.2.1 p kk.1] at h1
    have := q.2
    omega
  refine xm_on hE (fun _ _ => none) (fun _ => false) (fun F C hF hC => ?_)
  (conv => whnf)
  repeat (first | (refine x_go (x_rc rfl (tb_dyn t1) rfl) ?_; (conv => whnf)) | (rw [tb_dyn t1]; (conv => whnf)) | (refine br_t (by first | omega | (simp (disch := omega) only [w32_id, w64_id, x_up_p, x_up_s, x_up_o, x_fill_p, x_fill_i, x_fill_o, x_cpy_p, x_cpy_i, x_cpy_o, x_upR_p, x_upR_s, x_upR_o, x_zM_p, x_zR_p, x_set_p, x_set_s, tb_CM, tb_SM, xm_cats, xm_cat, List.length_cons, List.length_nil, x_cmp_ge, x_cmp_le, x_cmp_gt, x_cmp_lt, x_cmp_eq, not_true_eq_false, not_false_eq_true, true_and, and_true, Int.add_zero, Int.zero_add, Int.cast_ofNat_Int, Int.sub_zero] <;> omega) | (simp (disch := omega) only [w32_id, w64_id, x_up_p, x_up_s, x_up_o, x_fill_p, x_fill_i, x_fill_o, x_cpy_p, x_cpy_i, x_cpy_o, x_upR_p, x_upR_s, x_upR_o, x_zM_p, x_zR_p, x_set_p, x_set_s, tb_CM, tb_SM, xm_cats, xm_cat, List.length_cons, List.length_nil, x_cmp_ge, x_cmp_le, x_cmp_gt, x_cmp_lt, x_cmp_eq, not_true_eq_false, not_false_eq_true, true_and, and_true, Int.add_zero, Int.zero_add, Int.cast_ofNat_Int, Int.sub_zero]; done) | fail) ?_; (conv => whnf)) | (refine br_f (by first | omega | (simp (disch := omega) only [w32_id, w64_id, x_up_p, x_up_s, x_up_o, x_fill_p, x_fill_i, x_fill_o, x_cpy_p, x_cpy_i, x_cpy_o, x_upR_p, x_upR_s, x_upR_o, x_zM_p, x_zR_p, x_set_p, x_set_s, tb_CM, tb_SM, xm_cats, xm_cat, List.length_cons, List.length_nil, x_cmp_ge, x_cmp_le, x_cmp_gt, x_cmp_lt, x_cmp_eq, not_true_eq_false, not_false_eq_true, true_and, and_true, Int.add_zero, Int.zero_add, Int.cast_ofNat_Int, Int.sub_zero] <;> omega) | (simp (disch := omega) only [w32_id, w64_id, x_up_p, x_up_s, x_up_o, x_fill_p, x_fill_i, x_fill_o, x_cpy_p, x_cpy_i, x_cpy_o, x_upR_p, x_upR_s, x_upR_o, x_zM_p, x_zR_p, x_set_p, x_set_s, tb_CM, tb_SM, xm_cats, xm_cat, List.length_cons, List.length_nil, x_cmp_ge, x_cmp_le, x_cmp_gt, x_cmp_lt, x_cmp_eq, not_true_eq_false, not_false_eq_true, true_and, and_true, Int.add_zero, Int.zero_add, Int.cast_ofNat_Int, Int.sub_zero]; done) | fail) ?_; (conv => whnf)) | (refine sw_in (by first | omega | (simp (disch := omega) only [w32_id, w64_id, x_up_p, x_up_s, x_up_o, x_fill_p, x_fill_i, x_fill_o, x_cpy_p, x_cpy_i, x_cpy_o, x_upR_p, x_upR_s, x_upR_o, x_zM_p, x_zR_p, x_set_p, x_set_s, tb_CM, tb_SM, xm_cats, xm_cat, List.length_cons, List.length_nil, x_cmp_ge, x_cmp_le, x_cmp_gt, x_cmp_lt, x_cmp_eq, not_true_eq_false, not_false_eq_true, true_and, and_true, Int.add_zero, Int.zero_add, Int.cast_ofNat_Int, Int.sub_zero] <;> omega) | (simp (disch := omega) only [w32_id, w64_id, x_up_p, x_up_s, x_up_o, x_fill_p, x_fill_i, x_fill_o, x_cpy_p, x_cpy_i, x_cpy_o, x_upR_p, x_upR_s, x_upR_o, x_zM_p, x_zR_p, x_set_p, x_set_s, tb_CM, tb_SM, xm_cats, xm_cat, List.length_cons, List.length_nil, x_cmp_ge, x_cmp_le, x_cmp_gt, x_cmp_lt, x_cmp_eq, not_true_eq_false, not_false_eq_true, true_and, and_true, Int.add_zero, Int.zero_add, Int.cast_ofNat_Int, Int.sub_zero]; done) | fail) ?_; (conv => whnf)) | (refine sw_hit (by first | omega | (simp (disch := omega) only [w32_id, w64_id, x_up_p, x_up_s, x_up_o, x_fill_p, x_fill_i, x_fill_o, x_cpy_p, x_cpy_i, x_cpy_o, x_upR_p, x_upR_s, x_upR_o, x_zM_p, x_zR_p, x_set_p, x_set_s, tb_CM, tb_SM, xm_cats, xm_cat, List.length_cons, List.length_nil, x_cmp_ge, x_cmp_le, x_cmp_gt, x_cmp_lt, x_cmp_eq, not_true_eq_false, not_false_eq_true, true_and, and_true, Int.add_zero, Int.zero_add, Int.cast_ofNat_Int, Int.sub_zero] <;> omega) | (simp (disch := omega) only [w32_id, w64_id, x_up_p, x_up_s, x_up_o, x_fill_p, x_fill_i, x_fill_o, x_cpy_p, x_cpy_i, x_cpy_o, x_upR_p, x_upR_s, x_upR_o, x_zM_p, x_zR_p, x_set_p, x_set_s, tb_CM, tb_SM, xm_cats, xm_cat, List.length_cons, List.length_nil, x_cmp_ge, x_cmp_le, x_cmp_gt, x_cmp_lt, x_cmp_eq, not_true_eq_false, not_false_eq_true, true_and, and_true, Int.add_zero, Int.zero_add, Int.cast_ofNat_Int, Int.sub_zero]; done) | fail) ?_ (sw_vac (by first | omega | (simp (disch := omega) only [w32_id, w64_id, x_up_p, x_up_s, x_up_o, x_fill_p, x_fill_i, x_fill_o, x_cpy_p, x_cpy_i, x_cpy_o, x_upR_p, x_upR_s, x_upR_o, x_zM_p, x_zR_p, x_set_p, x_set_s, tb_CM, tb_SM, xm_cats, xm_cat, List.length_cons, List.length_nil, x_cmp_ge, x_cmp_le, x_cmp_gt, x_cmp_lt, x_cmp_eq, not_true_eq_false, not_false_eq_true, true_and, and_true, Int.add_zero, Int.zero_add, Int.cast_ofNat_Int, Int.sub_zero] <;> omega) | (simp (disch := omega) only [w32_id, w64_id, x_up_p, x_up_s, x_up_o, x_fill_p, x_fill_i, x_fill_o, x_cpy_p, x_cpy_i, x_cpy_o, x_upR_p, x_upR_s, x_upR_o, x_zM_p, x_zR_p, x_set_p, x_set_s, tb_CM, tb_SM, xm_cats, xm_cat, List.length_cons, List.length_nil, x_cmp_ge, x_cmp_le, x_cmp_gt, x_cmp_lt, x_cmp_eq, not_true_eq_false, not_false_eq_true, true_and, and_true, Int.add_zero, Int.zero_add, Int.cast_ofNat_Int, Int.sub_zero]; done) | fail)); (conv => whnf)) | (refine sw_next (by first | omega | (simp (disch := omega) only [w32_id, w64_id, x_up_p, x_up_s, x_up_o, x_fill_p, x_fill_i, x_fill_o, x_cpy_p, x_cpy_i, x_cpy_o, x_upR_p, x_upR_s, x_upR_o, x_zM_p, x_zR_p, x_set_p, x_set_s, tb_CM, tb_SM, xm_cats, xm_cat, List.length_cons, List.length_nil, x_cmp_ge, x_cmp_le, x_cmp_gt, x_cmp_lt, x_cmp_eq, not_true_eq_false, not_false_eq_true, true_and, and_true, Int.add_zero, Int.zero_add, Int.cast_ofNat_Int, Int.sub_zero] <;> omega) | (simp (disch := omega) only [w32_id, w64_id, x_up_p, x_up_s, x_up_o, x_fill_p, x_fill_i, x_fill_o, x_cpy_p, x_cpy_i, x_cpy_o, x_upR_p, x_upR_s, x_upR_o, x_zM_p, x_zR_p, x_set_p, x_set_s, tb_CM, tb_SM, xm_cats, xm_cat, List.length_cons, List.length_nil, x_cmp_ge, x_cmp_le, x_cmp_gt, x_cmp_lt, x_cmp_eq, not_true_eq_false, not_false_eq_true, true_and, and_true, Int.add_zero, Int.zero_add, Int.cast_ofNat_Int, Int.sub_zero]; done) | fail) ?_; (conv => whnf)) | (refine sw_def (by first | omega | (simp (disch := omega) only [w32_id, w64_id, x_up_p, x_up_s, x_up_o, x_fill_p, x_fill_i, x_fill_o, x_cpy_p, x_cpy_i, x_cpy_o, x_upR_p, x_upR_s, x_upR_o, x_zM_p, x_zR_p, x_set_p, x_set_s, tb_CM, tb_SM, xm_cats, xm_cat, List.length_cons, List.length_nil, x_cmp_ge, x_cmp_le, x_cmp_gt, x_cmp_lt, x_cmp_eq, not_true_eq_false, not_false_eq_true, true_and, and_true, Int.add_zero, Int.zero_add, Int.cast_ofNat_Int, Int.sub_zero] <;> omega) | (simp (disch := omega) only [w32_id, w64_id, x_up_p, x_up_s, x_up_o, x_fill_p, x_fill_i, x_fill_o, x_cpy_p, x_cpy_i, x_cpy_o, x_upR_p, x_upR_s, x_upR_o, x_zM_p, x_zR_p, x_set_p, x_set_s, tb_CM, tb_SM, xm_cats, xm_cat, List.length_cons, List.length_nil, x_cmp_ge, x_cmp_le, x_cmp_gt, x_cmp_lt, x_cmp_eq, not_true_eq_false, not_false_eq_true, true_and, and_true, Int.add_zero, Int.zero_add, Int.cast_ofNat_Int, Int.sub_zero]; done) | fail) ?_; (conv => whnf)) | (refine And.intro (by first | omega | (simp (disch := omega) only [w32_id, w64_id, x_up_p, x_up_s, x_up_o, x_fill_p, x_fill_i, x_fill_o, x_cpy_p, x_cpy_i, x_cpy_o, x_upR_p, x_upR_s, x_upR_o, x_zM_p, x_zR_p, x_set_p, x_set_s, tb_CM, tb_SM, xm_cats, xm_cat, List.length_cons, List.length_nil, x_cmp_ge, x_cmp_le, x_cmp_gt, x_cmp_lt, x_cmp_eq, not_true_eq_false, not_false_eq_true, true_and, and_true, Int.add_zero, Int.zero_add, Int.cast_ofNat_Int, Int.sub_zero] <;> omega) | (simp (disch := omega) only [w32_id, w64_id, x_up_p, x_up_s, x_up_o, x_fill_p, x_fill_i, x_fill_o, x_cpy_p, x_cpy_i, x_cpy_o, x_upR_p, x_upR_s, x_upR_o, x_zM_p, x_zR_p, x_set_p, x_set_s, tb_CM, tb_SM, xm_cats, xm_cat, List.length_cons, List.length_nil, x_cmp_ge, x_cmp_le, x_cmp_gt, x_cmp_lt, x_cmp_eq, not_true_eq_false, not_false_eq_true, true_and, and_true, Int.add_zero, Int.zero_add, Int.cast_ofNat_Int, Int.sub_zero]; done) | fail) ?_; (conv => whnf)))
  try rw [u9]
  try (refine x_go (x_rc rfl (by first | assumption | exact c_E_kd (by assumption) | exact wE_kd (by assumption) | exact c_T_kd (by assumption) | exact c_S_kd (by assumption) | exact (‹c_E _ _ _›).1 | exact tb_dyn (‹c_T _ _ _›).1 | exact (‹c_S _ _ _›).1.1) rfl) ?_; (conv => whnf))
  refine hC _ _ _ _ _ (w_271 (k := g) (y := y) (x := xr) (lo := 1) (hi := z) (c := (tr g).2.1 9) (ma := pl) (z := z) (i := st) hE hS (fun u hu => (hgv u hu).1) (fun u hu => (hgv u hu).2) hgf hz hz5 (by omega) (Int.le_refl _) (by omega) hy (by omega) (by rw [List.length_append]; omega) hr hrk (fun th hth ρ2 e2 M2 R2 sl2 ow2 hg2 hS2 hf2 hy2 hh2 => ?_) (fun w a hth => wX_tr (X := xE x) hg hf xX.1 hc0.1 hc0.2.2.1 xX.2 (hQ2 w a (by rw [← eqs, hth]; rfl))))
  have G2 := kG_tr hg hg2
  have F2 : wF (xE x) ((tr f).1 + 175) 0 0 G.length e tn st ow M R M2 R2 := wF_tr hg hf hf2 (Int.le_refl _) (by omega) (by rw [List.length_append]; omega) (fun p kk q => absurd q (nS p kk)) (.inl rfl)
  have hx1 : wE ρ1 e1 R1 ow1 tn (G1 ++ G) x := by
    obtain ⟨p1, p2, p3, p4⟩ := wE_g hx hg (Int.le_refl _)
    exact ⟨p1, p2, p3, fun u hu => by rcases List.mem_append.mp hu with hu | hu; exact hxG1 u hu; exact p4 u hu⟩
  have hx2 := wE_g hx1 hg2 (Int.le_refl _)
  have hw2 : hWv (s.1 0) th := k_rs_W hW (by rw [← eqs]; exact hth)
  (conv => whnf)
  try (refine x_go (x_rc rfl (by first | assumption | exact c_E_kd (by assumption) | exact wE_kd (by assumption) | exact c_T_kd (by assumption) | exact c_S_kd (by assumption) | exact (‹c_E _ _ _›).1 | exact tb_dyn (‹c_T _ _ _›).1 | exact (‹c_S _ _ _›).1.1) rfl) ?_; (conv => whnf))
  refine hC _ _ _ _ _ (w_272 (y := y) (x := x) (i := st) (pl := pl) (h := th) hE hS2 (by omega) (by omega) hy2 hh2 hw2 hx2.1 hx2.2.1 hx2.2.2.1 hx2.2.2.2 (fun v hv ρ3 e3 M3 R3 sl3 ow3 hg3 hS3 hf3 he3 hk3 => ?_) (fun w a hv => wX_tr (X := xE x) G2 F2 xX.1 hc0.1 hc0.2.2.1 xX.2 (hQ2 w a (by rw [← eqs, hth]; exact hv))))
  have G3 := kG_tr G2 hg3
  have F3 : wF (xE x) ((tr f).1 + 175) 0 0 G.length e tn st ow M R M3 R3 := wF_tr G2 F2 hf3 (Int.le_refl _) (by omega) (by rw [List.length_append]; omega) (fun p kk q => q) (.inl rfl)
  obtain ⟨-, ⟨b1, b2, b3, -⟩, -⟩ := id hS3
  have hge := c_E_ge hx.1
  obtain ⟨q1, q2⟩ := wS_bk (M2 := x_up (x_up M3 8 11 G.length) 8 8 st) hS0 G3 F3 (fun u hu => by
    have h1 := hx.2.2.2 u hu
    have h2 := (cN_m hS0.2.2.2.1.1 u hu).1
    have h3 := c_E_ne hx.1 h2
    have h4 := c_E_ne h2 hx.1
    exact ⟨fun q => by rcases q with q | q; exact h1 q; exact h3 q, fun q => by rcases q with q | q; exact h4 q.symm; exact h1 (by omega)⟩) (fun p q => ⟨xX.2 p q, xX.1 p q⟩) hS3 (fun p hp => by rw [x_up_ne hp, x_up_ne hp]) (fun j _ j2 j3 => by rw [x_up_o j2, x_up_o j3]) (by rw [x_up_o (by decide), x_up_o (by decide)]; exact b1) (x_up_s rfl) (by rw [x_up_o (by decide), x_up_s rfl])
  have fin := hQ1 v (by rw [← eqs, hth]; exact hv) ρ3 e3 _ R3 sl3 ow3 G3 q1 q2 (eC_fr he3 (by rw [x_up_ne (by omega), x_up_ne (by omega)]) (by rw [x_up_ne (by omega), x_up_ne (by omega)])) hk3
  have s8 : x_up (x_up M3 8 11 (G.length : Int)) 8 8 (w32 (x_up M3 8 11 (G.length : Int) 8 8 - 1)) = x_up (x_up M3 8 11 G.length) 8 8 st := by
    rw [x_up_o (by decide), b2, show st + 1 - 1 = st by omega]
    simp (disch := omega) only [w32_id]
  (conv => whnf)
  first | exact fin | (rw [s8]; exact fin) | (repeat (first | (refine br_t (by first | omega | (simp (disch := omega) only [w32_id, w64_id, x_up_p, x_up_s, x_up_o, x_fill_p, x_fill_i, x_fill_o, x_cpy_p, x_cpy_i, x_cpy_o, x_upR_p, x_upR_s, x_upR_o, x_zM_p, x_zR_p, x_set_p, x_set_s, tb_CM, tb_SM, xm_cats, xm_cat, List.length_cons, List.length_nil, x_cmp_ge, x_cmp_le, x_cmp_gt, x_cmp_lt, x_cmp_eq, not_true_eq_false, not_false_eq_true, true_and, and_true, Int.add_zero, Int.zero_add, Int.cast_ofNat_Int, Int.sub_zero] <;> omega) | (simp (disch := omega) only [w32_id, w64_id, x_up_p, x_up_s, x_up_o, x_fill_p, x_fill_i, x_fill_o, x_cpy_p, x_cpy_i, x_cpy_o, x_upR_p, x_upR_s, x_upR_o, x_zM_p, x_zR_p, x_set_p, x_set_s, tb_CM, tb_SM, xm_cats, xm_cat, List.length_cons, List.length_nil, x_cmp_ge, x_cmp_le, x_cmp_gt, x_cmp_lt, x_cmp_eq, not_true_eq_false, not_false_eq_true, true_and, and_true, Int.add_zero, Int.zero_add, Int.cast_ofNat_Int, Int.sub_zero]; done) | fail) ?_; (conv => whnf)) | (refine br_f (by first | omega | (simp (disch := omega) only [w32_id, w64_id, x_up_p, x_up_s, x_up_o, x_fill_p, x_fill_i, x_fill_o, x_cpy_p, x_cpy_i, x_cpy_o, x_upR_p, x_upR_s, x_upR_o, x_zM_p, x_zR_p, x_set_p, x_set_s, tb_CM, tb_SM, xm_cats, xm_cat, List.length_cons, List.length_nil, x_cmp_ge, x_cmp_le, x_cmp_gt, x_cmp_lt, x_cmp_eq, not_true_eq_false, not_false_eq_true, true_and, and_true, Int.add_zero, Int.zero_add, Int.cast_ofNat_Int, Int.sub_zero] <;> omega) | (simp (disch := omega) only [w32_id, w64_id, x_up_p, x_up_s, x_up_o, x_fill_p, x_fill_i, x_fill_o, x_cpy_p, x_cpy_i, x_cpy_o, x_upR_p, x_upR_s, x_upR_o, x_zM_p, x_zR_p, x_set_p, x_set_s, tb_CM, tb_SM, xm_cats, xm_cat, List.length_cons, List.length_nil, x_cmp_ge, x_cmp_le, x_cmp_gt, x_cmp_lt, x_cmp_eq, not_true_eq_false, not_false_eq_true, true_and, and_true, Int.add_zero, Int.zero_add, Int.cast_ofNat_Int, Int.sub_zero]; done) | fail) ?_; (conv => whnf)) | (refine sw_in (by first | omega | (simp (disch := omega) only [w32_id, w64_id, x_up_p, x_up_s, x_up_o, x_fill_p, x_fill_i, x_fill_o, x_cpy_p, x_cpy_i, x_cpy_o, x_upR_p, x_upR_s, x_upR_o, x_zM_p, x_zR_p, x_set_p, x_set_s, tb_CM, tb_SM, xm_cats, xm_cat, List.length_cons, List.length_nil, x_cmp_ge, x_cmp_le, x_cmp_gt, x_cmp_lt, x_cmp_eq, not_true_eq_false, not_false_eq_true, true_and, and_true, Int.add_zero, Int.zero_add, Int.cast_ofNat_Int, Int.sub_zero] <;> omega) | (simp (disch := omega) only [w32_id, w64_id, x_up_p, x_up_s, x_up_o, x_fill_p, x_fill_i, x_fill_o, x_cpy_p, x_cpy_i, x_cpy_o, x_upR_p, x_upR_s, x_upR_o, x_zM_p, x_zR_p, x_set_p, x_set_s, tb_CM, tb_SM, xm_cats, xm_cat, List.length_cons, List.length_nil, x_cmp_ge, x_cmp_le, x_cmp_gt, x_cmp_lt, x_cmp_eq, not_true_eq_false, not_false_eq_true, true_and, and_true, Int.add_zero, Int.zero_add, Int.cast_ofNat_Int, Int.sub_zero]; done) | fail) ?_; (conv => whnf)) | (refine sw_hit (by first | omega | (simp (disch := omega) only [w32_id, w64_id, x_up_p, x_up_s, x_up_o, x_fill_p, x_fill_i, x_fill_o, x_cpy_p, x_cpy_i, x_cpy_o, x_upR_p, x_upR_s, x_upR_o, x_zM_p, x_zR_p, x_set_p, x_set_s, tb_CM, tb_SM, xm_cats, xm_cat, List.length_cons, List.length_nil, x_cmp_ge, x_cmp_le, x_cmp_gt, x_cmp_lt, x_cmp_eq, not_true_eq_false, not_false_eq_true, true_and, and_true, Int.add_zero, Int.zero_add, Int.cast_ofNat_Int, Int.sub_zero] <;> omega) | (simp (disch := omega) only [w32_id, w64_id, x_up_p, x_up_s, x_up_o, x_fill_p, x_fill_i, x_fill_o, x_cpy_p, x_cpy_i, x_cpy_o, x_upR_p, x_upR_s, x_upR_o, x_zM_p, x_zR_p, x_set_p, x_set_s, tb_CM, tb_SM, xm_cats, xm_cat, List.length_cons, List.length_nil, x_cmp_ge, x_cmp_le, x_cmp_gt, x_cmp_lt, x_cmp_eq, not_true_eq_false, not_false_eq_true, true_and, and_true, Int.add_zero, Int.zero_add, Int.cast_ofNat_Int, Int.sub_zero]; done) | fail) ?_ (sw_vac (by first | omega | (simp (disch := omega) only [w32_id, w64_id, x_up_p, x_up_s, x_up_o, x_fill_p, x_fill_i, x_fill_o, x_cpy_p, x_cpy_i, x_cpy_o, x_upR_p, x_upR_s, x_upR_o, x_zM_p, x_zR_p, x_set_p, x_set_s, tb_CM, tb_SM, xm_cats, xm_cat, List.length_cons, List.length_nil, x_cmp_ge, x_cmp_le, x_cmp_gt, x_cmp_lt, x_cmp_eq, not_true_eq_false, not_false_eq_true, true_and, and_true, Int.add_zero, Int.zero_add, Int.cast_ofNat_Int, Int.sub_zero] <;> omega) | (simp (disch := omega) only [w32_id, w64_id, x_up_p, x_up_s, x_up_o, x_fill_p, x_fill_i, x_fill_o, x_cpy_p, x_cpy_i, x_cpy_o, x_upR_p, x_upR_s, x_upR_o, x_zM_p, x_zR_p, x_set_p, x_set_s, tb_CM, tb_SM, xm_cats, xm_cat, List.length_cons, List.length_nil, x_cmp_ge, x_cmp_le, x_cmp_gt, x_cmp_lt, x_cmp_eq, not_true_eq_false, not_false_eq_true, true_and, and_true, Int.add_zero, Int.zero_add, Int.cast_ofNat_Int, Int.sub_zero]; done) | fail)); (conv => whnf)) | (refine sw_next (by first | omega | (simp (disch := omega) only [w32_id, w64_id, x_up_p, x_up_s, x_up_o, x_fill_p, x_fill_i, x_fill_o, x_cpy_p, x_cpy_i, x_cpy_o, x_upR_p, x_upR_s, x_upR_o, x_zM_p, x_zR_p, x_set_p, x_set_s, tb_CM, tb_SM, xm_cats, xm_cat, List.length_cons, List.length_nil, x_cmp_ge, x_cmp_le, x_cmp_gt, x_cmp_lt, x_cmp_eq, not_true_eq_false, not_false_eq_true, true_and, and_true, Int.add_zero, Int.zero_add, Int.cast_ofNat_Int, Int.sub_zero] <;> omega) | (simp (disch := omega) only [w32_id, w64_id, x_up_p, x_up_s, x_up_o, x_fill_p, x_fill_i, x_fill_o, x_cpy_p, x_cpy_i, x_cpy_o, x_upR_p, x_upR_s, x_upR_o, x_zM_p, x_zR_p, x_set_p, x_set_s, tb_CM, tb_SM, xm_cats, xm_cat, List.length_cons, List.length_nil, x_cmp_ge, x_cmp_le, x_cmp_gt, x_cmp_lt, x_cmp_eq, not_true_eq_false, not_false_eq_true, true_and, and_true, Int.add_zero, Int.zero_add, Int.cast_ofNat_Int, Int.sub_zero]; done) | fail) ?_; (conv => whnf)) | (refine sw_def (by first | omega | (simp (disch := omega) only [w32_id, w64_id, x_up_p, x_up_s, x_up_o, x_fill_p, x_fill_i, x_fill_o, x_cpy_p, x_cpy_i, x_cpy_o, x_upR_p, x_upR_s, x_upR_o, x_zM_p, x_zR_p, x_set_p, x_set_s, tb_CM, tb_SM, xm_cats, xm_cat, List.length_cons, List.length_nil, x_cmp_ge, x_cmp_le, x_cmp_gt, x_cmp_lt, x_cmp_eq, not_true_eq_false, not_false_eq_true, true_and, and_true, Int.add_zero, Int.zero_add, Int.cast_ofNat_Int, Int.sub_zero] <;> omega) | (simp (disch := omega) only [w32_id, w64_id, x_up_p, x_up_s, x_up_o, x_fill_p, x_fill_i, x_fill_o, x_cpy_p, x_cpy_i, x_cpy_o, x_upR_p, x_upR_s, x_upR_o, x_zM_p, x_zR_p, x_set_p, x_set_s, tb_CM, tb_SM, xm_cats, xm_cat, List.length_cons, List.length_nil, x_cmp_ge, x_cmp_le, x_cmp_gt, x_cmp_lt, x_cmp_eq, not_true_eq_false, not_false_eq_true, true_and, and_true, Int.add_zero, Int.zero_add, Int.cast_ofNat_Int, Int.sub_zero]; done) | fail) ?_; (conv => whnf)) | (refine And.intro (by first | omega | (simp (disch := omega) only [w32_id, w64_id, x_up_p, x_up_s, x_up_o, x_fill_p, x_fill_i, x_fill_o, x_cpy_p, x_cpy_i, x_cpy_o, x_upR_p, x_upR_s, x_upR_o, x_zM_p, x_zR_p, x_set_p, x_set_s, tb_CM, tb_SM, xm_cats, xm_cat, List.length_cons, List.length_nil, x_cmp_ge, x_cmp_le, x_cmp_gt, x_cmp_lt, x_cmp_eq, not_true_eq_false, not_false_eq_true, true_and, and_true, Int.add_zero, Int.zero_add, Int.cast_ofNat_Int, Int.sub_zero] <;> omega) | (simp (disch := omega) only [w32_id, w64_id, x_up_p, x_up_s, x_up_o, x_fill_p, x_fill_i, x_fill_o, x_cpy_p, x_cpy_i, x_cpy_o, x_upR_p, x_upR_s, x_upR_o, x_zM_p, x_zR_p, x_set_p, x_set_s, tb_CM, tb_SM, xm_cats, xm_cat, List.length_cons, List.length_nil, x_cmp_ge, x_cmp_le, x_cmp_gt, x_cmp_lt, x_cmp_eq, not_true_eq_false, not_false_eq_true, true_and, and_true, Int.add_zero, Int.zero_add, Int.cast_ofNat_Int, Int.sub_zero]; done) | fail) ?_; (conv => whnf))); rw [s8]; exact fin)
-- what is given, one after the other
set_option linter.unusedSimpArgs false in
set_option maxRecDepth 100000 in
set_option maxHeartbeats 4000000 in
theorem w_283b (hE : ∀ j, (eX j).1 ≤ 1000000) {xr : z_T} {base : Int} {pool : List (Int × (Int → Int))} (hS0 : wS fs tr f t s0 G tn st ρ e M R sl ow) (hgf : g < fs) (hz : (tr g).2.1 1 = z) (hz5 : z ≤ 500) (hx : wE ρ e R ow tn G x) (hxb : ow x < base) (hb : 0 ≤ base ∧ base + pool.length = tn) (htn : tn + 2 < 300) (hGV : ∀ u ∈ G, k_in 1000000 u.2.2.2.1 u.2.2.2.2 ∧ u.2.2.2.2 = 0) (hr : tyC (tr g).2.2 1 z ((tr g).2.1 9) xr) (hrV : tyV M0 (M0 94 g) xr) (hrk : z_Tk xr) (hpl : 0 ≤ pl) {out : k_o k_v} (hQ1 : ∀ v, out = .inr v → ∀ ρ2 e2 M2 R2 sl2 ow2, kG ρ e R sl ow ρ2 e2 R2 sl2 ow2 → wS fs tr f t v.1 G tn st ρ2 e2 M2 R2 sl2 ow2 → wF (xE x) ((tr f).1 + 175) 0 0 G.length e tn st ow M R M2 R2 → eC M2 x v.2.1 v.2.2 0 → k_ok (v.1.1 0) v.2.1 v.2.2 → Q (.inl none) (ρ2, e2, M2, R2, sl2)) (hQ2 : ∀ w a, out = .inl (w, a) → wX fs tr ((tr f).1 + 175) w a ρ e M R sl ow Q) : ∀ (Pp : List ((Int × Int) × z_T)) (vs : List (Int × (Int → Int))) (k : Nat) (b c1 : Int) (s : k_s) (G1 : List c_g) (E1 Eh : k_E) (ρ1 : Nat → Option xk) (e1 : Nat) (M1 : Nat → Int → Int) (R1 : Nat → Int → Option Nat) (sl1 : Nat) (ow1 : Nat → Int), vs.length = Pp.length → pool.drop k = vs → k + vs.length = pool.length → (∀ (j : Nat) v p, vs[j]? = some v → Pp[j]? = some p → (v.1 = 1 ↔ p.2.1 = 3)) → paW (tr g).2.2 z c1 Pp → paV M0 b Pp → (∀ p ∈ Pp, w_w p.1.1 p.1.2 ∧ z_Tk p.2) → kG ρ e R sl ow ρ1 e1 R1 sl1 ow1 → wS fs tr f t s (G1 ++ G) tn (st + 1) ρ1 e1 M1 R1 sl1 ow1 → wF (xE x) ((tr f).1 + 175) 0 0 G.length e tn st ow M R M1 R1 → sY ρ1 e1 R1 ow1 st y → (∀ u ∈ G1, u.2.1 ≠ x) → pO M1 R1 base pool → (∀ v ∈ pool, ∀ k, s.1 0 ≤ k → k < 24 → v.2 k = 0) → gE G1 E1 → eW (s.1 0) E1 → eS Eh E1 → (∃ sh yh th, k_hp M0 b Pp.length Eh sh = .inr yh ∧ k_rs M0 yh.1 (-1) (M0 94 g) = .inr th) → G.length ≤ 14 → G1.length + Pp.length ≤ 9 → k_b (k_cg M0 f pl b vs E1 s) (fun q => k_b (k_rs M0 q.1 pl (M0 94 g)) (fun th => k_gv th pl q.2)) = out → xm_J tb_P eX tb_K0 174 (d + 9) 283 Q 96 [(0, .inr (.inr (some 9))), (1, .inr (.inr (some ((tr g).1 + 175)))), (2, .inl pl), (4, .inr (.inr (some (x + 1)))), (5, .inr (.inr (some (y + 1)))), (6, .inl (G.length : Int)), (7, .inl (base + k)), (8, .inl c1)] [] (ρ1, e1, M1, R1, sl1) := by
  have hc0 := hS0.2.2.1
  have xX := xE_0 hx
  have hxo := hx.2.1
  intro Pp
  induction Pp with
  | nil =>
    intro vs k b c1 s G1 E1 Eh ρ1 e1 M1 R1 sl1 ow1 hvl hpd hkl hkd hpa hpv hpk hg hS hf hy hxG1 hpO hpz hGE hW hs hh hG14 hGl ho
    have hc : c1 = 0 := hpa
    subst hc
    have hv : vs = [] := List.length_eq_zero_iff.mp hvl
    subst hv
    obtain ⟨sh, yh, th, q1, q2⟩ := hh
    have q1 : (Sum.inr (Eh, sh) : k_o (k_E × k_s)) = Sum.inr yh := q1
    cases q1
    have fin := w_283c (Q := Q) (d := d) (M0 := M0) (pl := pl) (s := s) (E1 := E1) (y := y) hE hS0 hg hS hf hgf hz hz5 hy hx hxG1 htn hGE hW hGV ⟨hG14, by simpa using hGl⟩ hr hrV hrk (tF_k hs hGE hrV hrk q2) hpl (fun v hv => hQ1 v (by rw [← ho]; exact hv)) (fun w a hv => hQ2 w a (by rw [← ho]; exact hv))
    refine xm_on hE (fun k pc => if Nat.beq k 283 && Nat.beq pc 173 then some [0, 1, 2, 4, 5, 6] else if Nat.beq k 283 && Nat.beq pc 96 then some [0, 1, 2, 4, 5, 6, 7, 8] else none) (fun _ => false) (fun F C hF hC => ?_)
    (conv => whnf)
    repeat (first | (refine br_t (by first | omega | (simp (disch := omega) only [w32_id, w64_id, x_up_p, x_up_s, x_up_o, x_fill_p, x_fill_i, x_fill_o, x_cpy_p, x_cpy_i, x_cpy_o, x_upR_p, x_upR_s, x_upR_o, x_zM_p, x_zR_p, x_set_p, x_set_s, tb_CM, tb_SM, xm_cats, xm_cat, List.length_cons, List.length_nil, x_cmp_ge, x_cmp_le, x_cmp_gt, x_cmp_lt, x_cmp_eq, not_true_eq_false, not_false_eq_true, true_and, and_true, Int.add_zero, Int.zero_add, Int.cast_ofNat_Int, Int.sub_zero] <;> omega) | (simp (disch := omega) only [w32_id, w64_id, x_up_p, x_up_s, x_up_o, x_fill_p, x_fill_i, x_fill_o, x_cpy_p, x_cpy_i, x_cpy_o, x_upR_p, x_upR_s, x_upR_o, x_zM_p, x_zR_p, x_set_p, x_set_s, tb_CM, tb_SM, xm_cats, xm_cat, List.length_cons, List.length_nil, x_cmp_ge, x_cmp_le, x_cmp_gt, x_cmp_lt, x_cmp_eq, not_true_eq_false, not_false_eq_true, true_and, and_true, Int.add_zero, Int.zero_add, Int.cast_ofNat_Int, Int.sub_zero]; done) | fail) ?_; (conv => whnf)) | (refine br_f (by first | omega | (simp (disch := omega) only [w32_id, w64_id, x_up_p, x_up_s, x_up_o, x_fill_p, x_fill_i, x_fill_o, x_cpy_p, x_cpy_i, x_cpy_o, x_upR_p, x_upR_s, x_upR_o, x_zM_p, x_zR_p, x_set_p, x_set_s, tb_CM, tb_SM, xm_cats, xm_cat, List.length_cons, List.length_nil, x_cmp_ge, x_cmp_le, x_cmp_gt, x_cmp_lt, x_cmp_eq, not_true_eq_false, not_false_eq_true, true_and, and_true, Int.add_zero, Int.zero_add, Int.cast_ofNat_Int, Int.sub_zero] <;> omega) | (simp (disch := omega) only [w32_id, w64_id, x_up_p, x_up_s, x_up_o, x_fill_p, x_fill_i, x_fill_o, x_cpy_p, x_cpy_i, x_cpy_o, x_upR_p, x_upR_s, x_upR_o, x_zM_p, x_zR_p, x_set_p, x_set_s, tb_CM, tb_SM, xm_cats, xm_cat, List.length_cons, List.length_nil, x_cmp_ge, x_cmp_le, x_cmp_gt, x_cmp_lt, x_cmp_eq, not_true_eq_false, not_false_eq_true, true_and, and_true, Int.add_zero, Int.zero_add, Int.cast_ofNat_Int, Int.sub_zero]; done) | fail) ?_; (conv => whnf)) | (refine sw_in (by first | omega | (simp (disch := omega) only [w32_id, w64_id, x_up_p, x_up_s, x_up_o, x_fill_p, x_fill_i, x_fill_o, x_cpy_p, x_cpy_i, x_cpy_o, x_upR_p, x_upR_s, x_upR_o, x_zM_p, x_zR_p, x_set_p, x_set_s, tb_CM, tb_SM, xm_cats, xm_cat, List.length_cons, List.length_nil, x_cmp_ge, x_cmp_le, x_cmp_gt, x_cmp_lt, x_cmp_eq, not_true_eq_false, not_false_eq_true, true_and, and_true, Int.add_zero, Int.zero_add, Int.cast_ofNat_Int, Int.sub_zero] <;> omega) | (simp (disch := omega) only [w32_id, w64_id, x_up_p, x_up_s, x_up_o, x_fill_p, x_fill_i, x_fill_o, x_cpy_p, x_cpy_i, x_cpy_o, x_upR_p, x_upR_s, x_upR_o, x_zM_p, x_zR_p, x_set_p, x_set_s, tb_CM, tb_SM, xm_cats, xm_cat, List.length_cons, List.length_nil, x_cmp_ge, x_cmp_le, x_cmp_gt, x_cmp_lt, x_cmp_eq, not_true_eq_false, not_false_eq_true, true_and, and_true, Int.add_zero, Int.zero_add, Int.cast_ofNat_Int, Int.sub_zero]; done) | fail) ?_; (conv => whnf)) | (refine sw_hit (by first | omega | (simp (disch := omega) only [w32_id, w64_id, x_up_p, x_up_s, x_up_o, x_fill_p, x_fill_i, x_fill_o, x_cpy_p, x_cpy_i, x_cpy_o, x_upR_p, x_upR_s, x_upR_o, x_zM_p, x_zR_p, x_set_p, x_set_s, tb_CM, tb_SM, xm_cats, xm_cat, List.length_cons, List.length_nil, x_cmp_ge, x_cmp_le, x_cmp_gt, x_cmp_lt, x_cmp_eq, not_true_eq_false, not_false_eq_true, true_and, and_true, Int.add_zero, Int.zero_add, Int.cast_ofNat_Int, Int.sub_zero] <;> omega) | (simp (disch := omega) only [w32_id, w64_id, x_up_p, x_up_s, x_up_o, x_fill_p, x_fill_i, x_fill_o, x_cpy_p, x_cpy_i, x_cpy_o, x_upR_p, x_upR_s, x_upR_o, x_zM_p, x_zR_p, x_set_p, x_set_s, tb_CM, tb_SM, xm_cats, xm_cat, List.length_cons, List.length_nil, x_cmp_ge, x_cmp_le, x_cmp_gt, x_cmp_lt, x_cmp_eq, not_true_eq_false, not_false_eq_true, true_and, and_true, Int.add_zero, Int.zero_add, Int.cast_ofNat_Int, Int.sub_zero]; done) | fail) ?_ (sw_vac (by first | omega | (simp (disch := omega) only [w32_id, w64_id, x_up_p, x_up_s, x_up_o, x_fill_p, x_fill_i, x_fill_o, x_cpy_p, x_cpy_i, x_cpy_o, x_upR_p, x_upR_s, x_upR_o, x_zM_p, x_zR_p, x_set_p, x_set_s, tb_CM, tb_SM, xm_cats, xm_cat, List.length_cons, List.length_nil, x_cmp_ge, x_cmp_le, x_cmp_gt, x_cmp_lt, x_cmp_eq, not_true_eq_false, not_false_eq_true, true_and, and_true, Int.add_zero, Int.zero_add, Int.cast_ofNat_Int, Int.sub_zero] <;> omega) | (simp (disch := omega) only [w32_id, w64_id, x_up_p, x_up_s, x_up_o, x_fill_p, x_fill_i, x_fill_o, x_cpy_p, x_cpy_i, x_cpy_o, x_upR_p, x_upR_s, x_upR_o, x_zM_p, x_zR_p, x_set_p, x_set_s, tb_CM, tb_SM, xm_cats, xm_cat, List.length_cons, List.length_nil, x_cmp_ge, x_cmp_le, x_cmp_gt, x_cmp_lt, x_cmp_eq, not_true_eq_false, not_false_eq_true, true_and, and_true, Int.add_zero, Int.zero_add, Int.cast_ofNat_Int, Int.sub_zero]; done) | fail)); (conv => whnf)) | (refine sw_next (by first | omega | (simp (disch := omega) only [w32_id, w64_id, x_up_p, x_up_s, x_up_o, x_fill_p, x_fill_i, x_fill_o, x_cpy_p, x_cpy_i, x_cpy_o, x_upR_p, x_upR_s, x_upR_o, x_zM_p, x_zR_p, x_set_p, x_set_s, tb_CM, tb_SM, xm_cats, xm_cat, List.length_cons, List.length_nil, x_cmp_ge, x_cmp_le, x_cmp_gt, x_cmp_lt, x_cmp_eq, not_true_eq_false, not_false_eq_true, true_and, and_true, Int.add_zero, Int.zero_add, Int.cast_ofNat_Int, Int.sub_zero] <;> omega) | (simp (disch := omega) only [w32_id, w64_id, x_up_p, x_up_s, x_up_o, x_fill_p, x_fill_i, x_fill_o, x_cpy_p, x_cpy_i, x_cpy_o, x_upR_p, x_upR_s, x_upR_o, x_zM_p, x_zR_p, x_set_p, x_set_s, tb_CM, tb_SM, xm_cats, xm_cat, List.length_cons, List.length_nil, x_cmp_ge, x_cmp_le, x_cmp_gt, x_cmp_lt, x_cmp_eq, not_true_eq_false, not_false_eq_true, true_and, and_true, Int.add_zero, Int.zero_add, Int.cast_ofNat_Int, Int.sub_zero]; done) | fail) ?_; (conv => whnf)) | (refine sw_def (by first | omega | (simp (disch := omega) only [w32_id, w64_id, x_up_p, x_up_s, x_up_o, x_fill_p, x_fill_i, x_fill_o, x_cpy_p, x_cpy_i, x_cpy_o, x_upR_p, x_upR_s, x_upR_o, x_zM_p, x_zR_p, x_set_p, x_set_s, tb_CM, tb_SM, xm_cats, xm_cat, List.length_cons, List.length_nil, x_cmp_ge, x_cmp_le, x_cmp_gt, x_cmp_lt, x_cmp_eq, not_true_eq_false, not_false_eq_true, true_and, and_true, Int.add_zero, Int.zero_add, Int.cast_ofNat_Int, Int.sub_zero] <;> omega) | (simp (disch := omega) only [w32_id, w64_id, x_up_p, x_up_s, x_up_o, x_fill_p, x_fill_i, x_fill_o, x_cpy_p, x_cpy_i, x_cpy_o, x_upR_p, x_upR_s, x_upR_o, x_zM_p, x_zR_p, x_set_p, x_set_s, tb_CM, tb_SM, xm_cats, xm_cat, List.length_cons, List.length_nil, x_cmp_ge, x_cmp_le, x_cmp_gt, x_cmp_lt, x_cmp_eq, not_true_eq_false, not_false_eq_true, true_and, and_true, Int.add_zero, Int.zero_add, Int.cast_ofNat_Int, Int.sub_zero]; done) | fail) ?_; (conv => whnf)) | (refine And.intro (by first | omega | (simp (disch := omega) only [w32_id, w64_id, x_up_p, x_up_s, x_up_o, x_fill_p, x_fill_i, x_fill_o, x_cpy_p, x_cpy_i, x_cpy_o, x_upR_p, x_upR_s, x_upR_o, x_zM_p, x_zR_p, x_set_p, x_set_s, tb_CM, tb_SM, xm_cats, xm_cat, List.length_cons, List.length_nil, x_cmp_ge, x_cmp_le, x_cmp_gt, x_cmp_lt, x_cmp_eq, not_true_eq_false, not_false_eq_true, true_and, and_true, Int.add_zero, Int.zero_add, Int.cast_ofNat_Int, Int.sub_zero] <;> omega) | (simp (disch := omega) only [w32_id, w64_id, x_up_p, x_up_s, x_up_o, x_fill_p, x_fill_i, x_fill_o, x_cpy_p, x_cpy_i, x_cpy_o, x_upR_p, x_upR_s, x_upR_o, x_zM_p, x_zR_p, x_set_p, x_set_s, tb_CM, tb_SM, xm_cats, xm_cat, List.length_cons, List.length_nil, x_cmp_ge, x_cmp_le, x_cmp_gt, x_cmp_lt, x_cmp_eq, not_true_eq_false, not_false_eq_true, true_and, and_true, Int.add_zero, Int.zero_add, Int.cast_ofNat_Int, Int.sub_zero]; done) | fail) ?_; (conv => whnf)))
    exact hF _ _ _ _ _ _ _ fin
  | cons p Pp ih =>
    intro vs k b c1 s G1 E1 Eh ρ1 e1 M1 R1 sl1 ow1 hvl hpd hkl hkd hpa hpv hpk hg hS hf hy hxG1 hpO hpz hGE hW hs hh hG14 hGl ho
    obtain ⟨v, vs, rfl⟩ : ∃ v vs', vs = v :: vs' := by
      cases vs with
      | nil => simp at hvl
      | cons v vs => exact ⟨v, vs, rfl⟩
    obtain ⟨a1, a2, a3, a4⟩ := hpa
    obtain ⟨⟨c2, c3⟩, c4⟩ := hpv
    obtain ⟨d1, d2⟩ := hpk p (List.mem_cons_self ..)
    rw [List.length_cons] at hkl hGl
    have hpk' : pool[k]? = some v := by
      have : (pool.drop k)[0]? = some v := by rw [hpd]; rfl
      rw [List.getElem?_drop] at this
      simpa using this
    obtain ⟨o1, o2, xv, o3, o4⟩ := hpO k v hpk'
    have hvz := hpz v (List.mem_of_getElem? hpk')
    have hkk : (k : Int) < pool.length := by omega
    obtain ⟨x1, x2, x3⟩ := kPl_x hS (k := base + k) (by omega) o3
    obtain ⟨sh, yh, th, q1, q2⟩ := hh
    have q1' : k_b (k_rs M0 Eh (-1) (M0 92 b)) (fun t => k_b (k_gv t 0 sh) (fun y => k_hp M0 (b + 1) Pp.length ((M0 91 b, 1 + y.2.1, y.2.2) :: Eh) y.1)) = .inr yh := q1
    rcases hq1 : k_rs M0 Eh (-1) (M0 92 b) with uu | th1
    · rw [hq1] at q1'; cases q1'
    rw [hq1] at q1'
    have q1'' : k_b (k_gv th1 0 sh) (fun y => k_hp M0 (b + 1) Pp.length ((M0 91 b, 1 + y.2.1, y.2.2) :: Eh) y.1) = .inr yh := q1'
    rcases hq2 : k_gv th1 0 sh with uu | yv
    · rw [hq2] at q1''; cases q1''
    rw [hq2] at q1''
    have hF1 : tF G1 p.2 := tF_k hs hGE c3 d2 hq1
    obtain ⟨u1, u2, u3, u4, u5, u6⟩ := wS_T hS hgf
    have uz : M1 ((tr g).1 + 174) 1 = z := by rw [u3]; exact hz
    have t5 : M1 ((tr g).1 + 175) (c1 * 9 + 5) = (tr g).2.2 (c1 * 9 + 5) := tM_i u4 c1 5 (by omega) (by omega) (by omega) (by omega)
    have hgv : ∀ u ∈ G1 ++ G, k_in 1000000 u.2.2.2.1 u.2.2.2.2 ∧ u.2.2.2.2 = 0 := fun u hu => by
      rcases List.mem_append.mp hu with hu | hu
      · exact gE_V hGE hW u hu
      · exact hGV u hu
    have eqs : c_rs (G1 ++ G) pl p.2 = k_rs M0 E1 pl (M0 92 b) := by rw [c_rs_app hF1]; exact c_rs_k hGE (.inr ⟨hpl, rfl⟩) c3 d2
    have ho' : k_b (k_b (k_rs M0 E1 pl (M0 92 b)) (fun t => k_b (k_ags f pl 3 (k_dm t v.2) s) (fun s1 => k_cg M0 f pl (b + 1) vs ((M0 91 b, 1 + v.1, v.2) :: E1) s1))) (fun q => k_b (k_rs M0 q.1 pl (M0 94 g)) (fun th => k_gv th pl q.2)) = out := ho
    have nS : ∀ (ow1 : Nat → Int) (e1 : Nat) (ρ1 : Nat → Option xk) (R1 : Nat → Int → Option Nat) (sl1 : Nat), kG ρ e R sl ow ρ1 e1 R1 sl1 ow1 → ∀ p, wK e tn st ow p → ¬ xS ow1 st p := fun ow1 e1 ρ1 R1 sl1 hg p kk q => by
      have h1 := kk.2.2 q.1
      rw [← hg.2.2.2.1 p kk.1] at h1
      have := q.2
      omega
    refine xm_on hE (fun k pc => if Nat.beq k 283 && Nat.beq pc 173 then some [0, 1, 2, 4, 5, 6] else if Nat.beq k 283 && Nat.beq pc 96 then some [0, 1, 2, 4, 5, 6, 7, 8] else none) (fun _ => false) (fun F C hF hC => ?_)
    (conv => whnf)
    repeat (first | (refine br_t (by first | omega | (simp (disch := omega) only [w32_id, w64_id, x_up_p, x_up_s, x_up_o, x_fill_p, x_fill_i, x_fill_o, x_cpy_p, x_cpy_i, x_cpy_o, x_upR_p, x_upR_s, x_upR_o, x_zM_p, x_zR_p, x_set_p, x_set_s, tb_CM, tb_SM, xm_cats, xm_cat, List.length_cons, List.length_nil, x_cmp_ge, x_cmp_le, x_cmp_gt, x_cmp_lt, x_cmp_eq, not_true_eq_false, not_false_eq_true, true_and, and_true, Int.add_zero, Int.zero_add, Int.cast_ofNat_Int, Int.sub_zero] <;> omega) | (simp (disch := omega) only [w32_id, w64_id, x_up_p, x_up_s, x_up_o, x_fill_p, x_fill_i, x_fill_o, x_cpy_p, x_cpy_i, x_cpy_o, x_upR_p, x_upR_s, x_upR_o, x_zM_p, x_zR_p, x_set_p, x_set_s, tb_CM, tb_SM, xm_cats, xm_cat, List.length_cons, List.length_nil, x_cmp_ge, x_cmp_le, x_cmp_gt, x_cmp_lt, x_cmp_eq, not_true_eq_false, not_false_eq_true, true_and, and_true, Int.add_zero, Int.zero_add, Int.cast_ofNat_Int, Int.sub_zero]; done) | fail) ?_; (conv => whnf)) | (refine br_f (by first | omega | (simp (disch := omega) only [w32_id, w64_id, x_up_p, x_up_s, x_up_o, x_fill_p, x_fill_i, x_fill_o, x_cpy_p, x_cpy_i, x_cpy_o, x_upR_p, x_upR_s, x_upR_o, x_zM_p, x_zR_p, x_set_p, x_set_s, tb_CM, tb_SM, xm_cats, xm_cat, List.length_cons, List.length_nil, x_cmp_ge, x_cmp_le, x_cmp_gt, x_cmp_lt, x_cmp_eq, not_true_eq_false, not_false_eq_true, true_and, and_true, Int.add_zero, Int.zero_add, Int.cast_ofNat_Int, Int.sub_zero] <;> omega) | (simp (disch := omega) only [w32_id, w64_id, x_up_p, x_up_s, x_up_o, x_fill_p, x_fill_i, x_fill_o, x_cpy_p, x_cpy_i, x_cpy_o, x_upR_p, x_upR_s, x_upR_o, x_zM_p, x_zR_p, x_set_p, x_set_s, tb_CM, tb_SM, xm_cats, xm_cat, List.length_cons, List.length_nil, x_cmp_ge, x_cmp_le, x_cmp_gt, x_cmp_lt, x_cmp_eq, not_true_eq_false, not_false_eq_true, true_and, and_true, Int.add_zero, Int.zero_add, Int.cast_ofNat_Int, Int.sub_zero]; done) | fail) ?_; (conv => whnf)) | (refine sw_in (by first | omega | (simp (disch := omega) only [w32_id, w64_id, x_up_p, x_up_s, x_up_o, x_fill_p, x_fill_i, x_fill_o, x_cpy_p, x_cpy_i, x_cpy_o, x_upR_p, x_upR_s, x_upR_o, x_zM_p, x_zR_p, x_set_p, x_set_s, tb_CM, tb_SM, xm_cats, xm_cat, List.length_cons, List.length_nil, x_cmp_ge, x_cmp_le, x_cmp_gt, x_cmp_lt, x_cmp_eq, not_true_eq_false, not_false_eq_true, true_and, and_true, Int.add_zero, Int.zero_add, Int.cast_ofNat_Int, Int.sub_zero] <;> omega) | (simp (disch := omega) only [w32_id, w64_id, x_up_p, x_up_s, x_up_o, x_fill_p, x_fill_i, x_fill_o, x_cpy_p, x_cpy_i, x_cpy_o, x_upR_p, x_upR_s, x_upR_o, x_zM_p, x_zR_p, x_set_p, x_set_s, tb_CM, tb_SM, xm_cats, xm_cat, List.length_cons, List.length_nil, x_cmp_ge, x_cmp_le, x_cmp_gt, x_cmp_lt, x_cmp_eq, not_true_eq_false, not_false_eq_true, true_and, and_true, Int.add_zero, Int.zero_add, Int.cast_ofNat_Int, Int.sub_zero]; done) | fail) ?_; (conv => whnf)) | (refine sw_hit (by first | omega | (simp (disch := omega) only [w32_id, w64_id, x_up_p, x_up_s, x_up_o, x_fill_p, x_fill_i, x_fill_o, x_cpy_p, x_cpy_i, x_cpy_o, x_upR_p, x_upR_s, x_upR_o, x_zM_p, x_zR_p, x_set_p, x_set_s, tb_CM, tb_SM, xm_cats, xm_cat, List.length_cons, List.length_nil, x_cmp_ge, x_cmp_le, x_cmp_gt, x_cmp_lt, x_cmp_eq, not_true_eq_false, not_false_eq_true, true_and, and_true, Int.add_zero, Int.zero_add, Int.cast_ofNat_Int, Int.sub_zero] <;> omega) | (simp (disch := omega) only [w32_id, w64_id, x_up_p, x_up_s, x_up_o, x_fill_p, x_fill_i, x_fill_o, x_cpy_p, x_cpy_i, x_cpy_o, x_upR_p, x_upR_s, x_upR_o, x_zM_p, x_zR_p, x_set_p, x_set_s, tb_CM, tb_SM, xm_cats, xm_cat, List.length_cons, List.length_nil, x_cmp_ge, x_cmp_le, x_cmp_gt, x_cmp_lt, x_cmp_eq, not_true_eq_false, not_false_eq_true, true_and, and_true, Int.add_zero, Int.zero_add, Int.cast_ofNat_Int, Int.sub_zero]; done) | fail) ?_ (sw_vac (by first | omega | (simp (disch := omega) only [w32_id, w64_id, x_up_p, x_up_s, x_up_o, x_fill_p, x_fill_i, x_fill_o, x_cpy_p, x_cpy_i, x_cpy_o, x_upR_p, x_upR_s, x_upR_o, x_zM_p, x_zR_p, x_set_p, x_set_s, tb_CM, tb_SM, xm_cats, xm_cat, List.length_cons, List.length_nil, x_cmp_ge, x_cmp_le, x_cmp_gt, x_cmp_lt, x_cmp_eq, not_true_eq_false, not_false_eq_true, true_and, and_true, Int.add_zero, Int.zero_add, Int.cast_ofNat_Int, Int.sub_zero] <;> omega) | (simp (disch := omega) only [w32_id, w64_id, x_up_p, x_up_s, x_up_o, x_fill_p, x_fill_i, x_fill_o, x_cpy_p, x_cpy_i, x_cpy_o, x_upR_p, x_upR_s, x_upR_o, x_zM_p, x_zR_p, x_set_p, x_set_s, tb_CM, tb_SM, xm_cats, xm_cat, List.length_cons, List.length_nil, x_cmp_ge, x_cmp_le, x_cmp_gt, x_cmp_lt, x_cmp_eq, not_true_eq_false, not_false_eq_true, true_and, and_true, Int.add_zero, Int.zero_add, Int.cast_ofNat_Int, Int.sub_zero]; done) | fail)); (conv => whnf)) | (refine sw_next (by first | omega | (simp (disch := omega) only [w32_id, w64_id, x_up_p, x_up_s, x_up_o, x_fill_p, x_fill_i, x_fill_o, x_cpy_p, x_cpy_i, x_cpy_o, x_upR_p, x_upR_s, x_upR_o, x_zM_p, x_zR_p, x_set_p, x_set_s, tb_CM, tb_SM, xm_cats, xm_cat, List.length_cons, List.length_nil, x_cmp_ge, x_cmp_le, x_cmp_gt, x_cmp_lt, x_cmp_eq, not_true_eq_false, not_false_eq_true, true_and, and_true, Int.add_zero, Int.zero_add, Int.cast_ofNat_Int, Int.sub_zero] <;> omega) | (simp (disch := omega) only [w32_id, w64_id, x_up_p, x_up_s, x_up_o, x_fill_p, x_fill_i, x_fill_o, x_cpy_p, x_cpy_i, x_cpy_o, x_upR_p, x_upR_s, x_upR_o, x_zM_p, x_zR_p, x_set_p, x_set_s, tb_CM, tb_SM, xm_cats, xm_cat, List.length_cons, List.length_nil, x_cmp_ge, x_cmp_le, x_cmp_gt, x_cmp_lt, x_cmp_eq, not_true_eq_false, not_false_eq_true, true_and, and_true, Int.add_zero, Int.zero_add, Int.cast_ofNat_Int, Int.sub_zero]; done) | fail) ?_; (conv => whnf)) | (refine sw_def (by first | omega | (simp (disch := omega) only [w32_id, w64_id, x_up_p, x_up_s, x_up_o, x_fill_p, x_fill_i, x_fill_o, x_cpy_p, x_cpy_i, x_cpy_o, x_upR_p, x_upR_s, x_upR_o, x_zM_p, x_zR_p, x_set_p, x_set_s, tb_CM, tb_SM, xm_cats, xm_cat, List.length_cons, List.length_nil, x_cmp_ge, x_cmp_le, x_cmp_gt, x_cmp_lt, x_cmp_eq, not_true_eq_false, not_false_eq_true, true_and, and_true, Int.add_zero, Int.zero_add, Int.cast_ofNat_Int, Int.sub_zero] <;> omega) | (simp (disch := omega) only [w32_id, w64_id, x_up_p, x_up_s, x_up_o, x_fill_p, x_fill_i, x_fill_o, x_cpy_p, x_cpy_i, x_cpy_o, x_upR_p, x_upR_s, x_upR_o, x_zM_p, x_zR_p, x_set_p, x_set_s, tb_CM, tb_SM, xm_cats, xm_cat, List.length_cons, List.length_nil, x_cmp_ge, x_cmp_le, x_cmp_gt, x_cmp_lt, x_cmp_eq, not_true_eq_false, not_false_eq_true, true_and, and_true, Int.add_zero, Int.zero_add, Int.cast_ofNat_Int, Int.sub_zero]; done) | fail) ?_; (conv => whnf)) | (refine And.intro (by first | omega | (simp (disch := omega) only [w32_id, w64_id, x_up_p, x_up_s, x_up_o, x_fill_p, x_fill_i, x_fill_o, x_cpy_p, x_cpy_i, x_cpy_o, x_upR_p, x_upR_s, x_upR_o, x_zM_p, x_zR_p, x_set_p, x_set_s, tb_CM, tb_SM, xm_cats, xm_cat, List.length_cons, List.length_nil, x_cmp_ge, x_cmp_le, x_cmp_gt, x_cmp_lt, x_cmp_eq, not_true_eq_false, not_false_eq_true, true_and, and_true, Int.add_zero, Int.zero_add, Int.cast_ofNat_Int, Int.sub_zero] <;> omega) | (simp (disch := omega) only [w32_id, w64_id, x_up_p, x_up_s, x_up_o, x_fill_p, x_fill_i, x_fill_o, x_cpy_p, x_cpy_i, x_cpy_o, x_upR_p, x_upR_s, x_upR_o, x_zM_p, x_zR_p, x_set_p, x_set_s, tb_CM, tb_SM, xm_cats, xm_cat, List.length_cons, List.length_nil, x_cmp_ge, x_cmp_le, x_cmp_gt, x_cmp_lt, x_cmp_eq, not_true_eq_false, not_false_eq_true, true_and, and_true, Int.add_zero, Int.zero_add, Int.cast_ofNat_Int, Int.sub_zero]; done) | fail) ?_; (conv => whnf)))
    try (refine x_go (x_rc rfl (by first | assumption | exact c_E_kd (by assumption) | exact wE_kd (by assumption) | exact c_T_kd (by assumption) | exact c_S_kd (by assumption) | exact (‹c_E _ _ _›).1 | exact tb_dyn (‹c_T _ _ _›).1 | exact (‹c_S _ _ _›).1.1) rfl) ?_; (conv => whnf))
    refine hC _ _ _ _ _ (k_356 (n := c1) (f := 5) (z := z) hE u1 uz (by omega) (by omega) ?_)
    rw [t5]
    (conv => whnf)
    try (refine x_go (x_rc rfl (by first | assumption | exact c_E_kd (by assumption) | exact wE_kd (by assumption) | exact c_T_kd (by assumption) | exact c_S_kd (by assumption) | exact (‹c_E _ _ _›).1 | exact tb_dyn (‹c_T _ _ _›).1 | exact (‹c_S _ _ _›).1.1) rfl) ?_; (conv => whnf))
    refine hC _ _ _ _ _ (w_271 (k := g) (y := y) (x := p.2) (lo := 1) (hi := z) (c := (tr g).2.2 (c1 * 9 + 5)) (ma := pl) (z := z) (i := st) hE hS (fun u hu => (hgv u hu).1) (fun u hu => (hgv u hu).2) hgf hz hz5 (by omega) (Int.le_refl _) (by have := hS0.2.2.1; have := hS.2.2.1; omega) hy (by omega) (by rw [List.length_append]; omega) a3 d2 (fun th hth ρ2 e2 M2 R2 sl2 ow2 hg2 hS2 hf2 hy2 hh2 => ?_) (fun w a hth => wX_tr (X := xE x) hg hf xX.1 hc0.1 hc0.2.2.1 xX.2 (hQ2 w a (by rw [← ho', ← eqs, hth]; rfl))))
    have G2 := kG_tr hg hg2
    have F2 : wF (xE x) ((tr f).1 + 175) 0 0 G.length e tn st ow M R M2 R2 := wF_tr hg hf hf2 (Int.le_refl _) (by omega) (by rw [List.length_append]; omega) (fun p kk q => absurd q (nS _ _ _ _ _ hg p kk)) (.inl rfl)
    have hpO2 : pO M2 R2 base pool := pO_go hS hpO (by omega) hg2 hf2 (fun p q => by have := q.2; omega)
    obtain ⟨o1', o2', xv2, o3', o4'⟩ := hpO2 k v hpk'
    have exv : xv2 = xv := by
      have := hg2.2.2.1 33 _ _ (by decide) (by decide) (by decide) (by omega) o3
      rw [o3'] at this
      injection this with this
      omega
    subst exv
    obtain ⟨x1', x2', x3'⟩ := kPl_x hS2 (k := base + k) (by omega) o3'
    have rs1 : k_rs M0 E1 pl (M0 92 b) = .inr th := by rw [← eqs]; exact hth
    have hw2 : hWv (s.1 0) th := k_rs_W hW rs1
    (conv => whnf)
    try (refine x_go (x_rc rfl (by first | assumption | exact c_E_kd (by assumption) | exact wE_kd (by assumption) | exact c_T_kd (by assumption) | exact c_S_kd (by assumption) | exact (‹c_E _ _ _›).1 | exact tb_dyn (‹c_T _ _ _›).1 | exact (‹c_S _ _ _›).1.1) rfl) ?_; (conv => whnf))
    refine hC _ _ _ _ _ (w_284 (k := base + k) (x := xv2) hE hS2 (by omega) o3' ?_)
    (conv => whnf)
    try (refine x_go (x_rc rfl (by first | assumption | exact c_E_kd (by assumption) | exact wE_kd (by assumption) | exact c_T_kd (by assumption) | exact c_S_kd (by assumption) | exact (‹c_E _ _ _›).1 | exact tb_dyn (‹c_T _ _ _›).1 | exact (‹c_S _ _ _›).1.1) rfl) ?_; (conv => whnf))
    refine hC _ _ _ _ _ (w_270 (y := y) (xa := xv2) (i := st) (ba := v.1) (h := th) (ha := v.2) hE hS2 (by omega) (by omega) hy2 hh2 x1' (by omega) x3' o1 o4' o2 (fun ρ3 e3 M3 R3 sl3 ow3 hg3 hP3 hf3 => ?_))
    have G3 := kG_tr G2 hg3
    have F3 : wF (xE x) ((tr f).1 + 175) 0 0 G.length e tn st ow M R M3 R3 := wF_tr G2 F2 hf3 (Int.le_refl _) (by omega) (by rw [List.length_append]; omega) (fun _ _ q => q.elim) (.inl rfl)
    have hpO3 : pO M3 R3 base pool := pO_go hS2 hpO2 (by omega) hg3 hf3 (fun p q => q.elim)
    have m84 : M3 8 4 = (f : Int) := by
      have := hP3.1.2.1.2.2.2.1
      rw [x_up_ne (by decide)] at this
      exact this
    (conv => whnf)
    try (refine x_go (x_rc rfl (by first | assumption | exact c_E_kd (by assumption) | exact wE_kd (by assumption) | exact c_T_kd (by assumption) | exact c_S_kd (by assumption) | exact (‹c_E _ _ _›).1 | exact tb_dyn (‹c_T _ _ _›).1 | exact (‹c_S _ _ _›).1.1) rfl) ?_; (conv => whnf))
    refine hC _ _ _ _ _ (xm_castc (w_257 (pl := pl) (so := 3) hE (by decide) hP3 (k_dm_z hh2 hw2 o2 hvz) (fun s4 hs4 M4 R4 hg4 hS4 hf4 m4 r4 => ?_) (fun w a hs4 => wX_tr (X := xE x) G3 F3 xX.1 hc0.1 hc0.2.2.1 xX.2 (hQ2 w a (by rw [← ho', rs1]; show k_b (k_b (k_ags _ _ _ _ _) _) _ = _; rw [hs4]; rfl)))) (by simp only [m84]) rfl)
    have G4 := kG_tr G3 hg4
    have F4 : wF (xE x) ((tr f).1 + 175) 0 0 G.length e tn st ow M R M4 R4 := wF_tr G3 F3 (hf4 (fun _ => False) 0 0 G.length tn st) (Int.le_refl _) (Int.le_refl _) (Int.le_refl _) (fun _ _ q => q.elim) (.inl rfl)
    have hy4 : sY ρ3 e3 R4 ow3 st y := sY_g (sY_g hy2 hg3) hg4
    have hpO4 : pO M4 R4 base pool := fun j u hu => by
      obtain ⟨p1, p2, xu, p3, p4⟩ := hpO3 j u hu
      have hju : j < pool.length := by
        by_cases hj : j < pool.length
        · exact hj
        · rw [List.getElem?_eq_none (by omega)] at hu; cases hu
      have hR33 : R3 33 (base + j) = some (xu + 1) := p3
      obtain ⟨w1, w2, w3⟩ := kPl_x hP3.1 (k := base + j) (by omega) hR33
      have hge := c_E_ge w1
      exact ⟨p1, p2, xu, by rw [r4 33 _ (by decide)]; exact p3, eC_fr p4 (by rw [m4 xu (by omega)]) (m4 (xu + 1) (by omega))⟩
    obtain ⟨w1, w2, w3, w4, w5, w6⟩ := wS_T hS4 hgf
    have uz4 : M4 ((tr g).1 + 174) 1 = z := by rw [w3]; exact hz
    have t3 : M4 ((tr g).1 + 175) (c1 * 9 + 3) = p.1.1 := (tM_i w4 c1 3 (by omega) (by omega) (by omega) (by omega)).trans a2
    obtain ⟨o1'', o2'', xv4, o3'', o4''⟩ := hpO4 k v hpk'
    obtain ⟨x1'', x2'', x3''⟩ := kPl_x hS4 (k := base + k) (by omega) o3''
    (conv => whnf)
    try (refine x_go (x_rc rfl (by first | assumption | exact c_E_kd (by assumption) | exact wE_kd (by assumption) | exact c_T_kd (by assumption) | exact c_S_kd (by assumption) | exact (‹c_E _ _ _›).1 | exact tb_dyn (‹c_T _ _ _›).1 | exact (‹c_S _ _ _›).1.1) rfl) ?_; (conv => whnf))
    refine hC _ _ _ _ _ (k_356 (n := c1) (f := 3) (z := z) hE w1 uz4 (by omega) (by omega) ?_)
    rw [t3]
    (conv => whnf)
    try (refine x_go (x_rc rfl (by first | assumption | exact c_E_kd (by assumption) | exact wE_kd (by assumption) | exact c_T_kd (by assumption) | exact c_S_kd (by assumption) | exact (‹c_E _ _ _›).1 | exact tb_dyn (‹c_T _ _ _›).1 | exact (‹c_S _ _ _›).1.1) rfl) ?_; (conv => whnf))
    refine hC _ _ _ _ _ (w_284 (k := base + k) (x := xv4) hE hS4 (by omega) o3'' ?_)
    (conv => whnf)
    try (refine x_go (x_rc rfl (by first | assumption | exact c_E_kd (by assumption) | exact wE_kd (by assumption) | exact c_T_kd (by assumption) | exact c_S_kd (by assumption) | exact (‹c_E _ _ _›).1 | exact tb_dyn (‹c_T _ _ _›).1 | exact (‹c_S _ _ _›).1.1) rfl) ?_; (conv => whnf))
    refine hC _ _ _ _ _ (w_266 (x := xv4) (w := p.1.1) hE hS4 (by rw [List.length_append]; omega) x1'' (by omega) x3'' o1 o4'' (fun M5 R5 hg5 hS5 hf5 m5 => ?_))
    have G5 := kG_tr G4 hg5
    have F5 : wF (xE x) ((tr f).1 + 175) 0 0 G.length e tn st ow M R M5 R5 := wF_tr G4 F4 (wF_le (lo1 := 0) (hi1 := 0) (hf5 (fun _ => False) 0 0 tn st) (fun _ q => q) (.inl rfl) (n1 := G.length) (by rw [List.length_append]; omega) (Int.le_refl _) (Int.le_refl _)) (Int.le_refl _) (Int.le_refl _) (Int.le_refl _) (fun _ _ q => q.elim) (.inl rfl)
    have hpO5 : pO M5 R5 base pool := pO_go hS4 hpO4 (by omega) hg5 (hf5 (fun _ => False) 0 0 tn st) (fun p q => q.elim)
    have ks := k_ags_i hs4
    have k0 := ks.1 0 (by decide) (by decide) (by decide)
    obtain ⟨z1, z2, z3, z4, z5, z6⟩ := wS_T hS5 hgf
    have uz5 : M5 ((tr g).1 + 174) 1 = z := by rw [z3]; exact hz
    have kd := hkd 0 v p rfl rfl
    have kv := k_gv_k hq2
    have t13 : th1.1 = 3 ↔ p.2.1 = 3 := by rw [k_rs_3 hq1, c3.1]
    have nx := ih vs (k + 1) (b + 1) (t_nx (tr g).2.2 c1) s4 ((p.1.1, xv4, v.1, v.2, 0) :: G1) ((M0 91 b, 1 + v.1, v.2) :: E1) ((M0 91 b, 1 + yv.2.1, yv.2.2) :: Eh) ρ3 e3 M5 R5 sl3 ow3 (by simpa using hvl) (by rw [← List.drop_drop, hpd]; rfl) (by omega) (fun j u q hu hq => hkd (j + 1) u q (by simpa using hu) (by simpa using hq)) a4 c4 (fun q hq => hpk q (List.mem_cons_of_mem _ hq)) G5 hS5 F5 (sY_g hy4 hg5) (fun u hu => ?_) hpO5 (by rw [k0]; exact hpz) ⟨⟨by rw [c2]; exact d1, ?_, rfl, rfl⟩, hGE⟩ (fun u hu => ?_) ⟨rfl, ?_, hs⟩ ⟨yv.1, yh, _, q1'', q2⟩ hG14 (by rw [List.length_cons]; omega) (by
      rw [← ho', rs1]
      show _ = k_b (k_b (k_ags f pl 3 (k_dm th v.2) s) _) _
      rw [hs4]
      rfl)
    · (conv => whnf)
      repeat (first | (refine br_t (by first | omega | (simp (disch := omega) only [w32_id, w64_id, x_up_p, x_up_s, x_up_o, x_fill_p, x_fill_i, x_fill_o, x_cpy_p, x_cpy_i, x_cpy_o, x_upR_p, x_upR_s, x_upR_o, x_zM_p, x_zR_p, x_set_p, x_set_s, tb_CM, tb_SM, xm_cats, xm_cat, List.length_cons, List.length_nil, x_cmp_ge, x_cmp_le, x_cmp_gt, x_cmp_lt, x_cmp_eq, not_true_eq_false, not_false_eq_true, true_and, and_true, Int.add_zero, Int.zero_add, Int.cast_ofNat_Int, Int.sub_zero] <;> omega) | (simp (disch := omega) only [w32_id, w64_id, x_up_p, x_up_s, x_up_o, x_fill_p, x_fill_i, x_fill_o, x_cpy_p, x_cpy_i, x_cpy_o, x_upR_p, x_upR_s, x_upR_o, x_zM_p, x_zR_p, x_set_p, x_set_s, tb_CM, tb_SM, xm_cats, xm_cat, List.length_cons, List.length_nil, x_cmp_ge, x_cmp_le, x_cmp_gt, x_cmp_lt, x_cmp_eq, not_true_eq_false, not_false_eq_true, true_and, and_true, Int.add_zero, Int.zero_add, Int.cast_ofNat_Int, Int.sub_zero]; done) | fail) ?_; (conv => whnf)) | (refine br_f (by first | omega | (simp (disch := omega) only [w32_id, w64_id, x_up_p, x_up_s, x_up_o, x_fill_p, x_fill_i, x_fill_o, x_cpy_p, x_cpy_i, x_cpy_o, x_upR_p, x_upR_s, x_upR_o, x_zM_p, x_zR_p, x_set_p, x_set_s, tb_CM, tb_SM, xm_cats, xm_cat, List.length_cons, List.length_nil, x_cmp_ge, x_cmp_le, x_cmp_gt, x_cmp_lt, x_cmp_eq, not_true_eq_false, not_false_eq_true, true_and, and_true, Int.add_zero, Int.zero_add, Int.cast_ofNat_Int, Int.sub_zero] <;> omega) | (simp (disch := omega) only [w32_id, w64_id, x_up_p, x_up_s, x_up_o, x_fill_p, x_fill_i, x_fill_o, x_cpy_p, x_cpy_i, x_cpy_o, x_upR_p, x_upR_s, x_upR_o, x_zM_p, x_zR_p, x_set_p, x_set_s, tb_CM, tb_SM, xm_cats, xm_cat, List.length_cons, List.length_nil, x_cmp_ge, x_cmp_le, x_cmp_gt, x_cmp_lt, x_cmp_eq, not_true_eq_false, not_false_eq_true, true_and, and_true, Int.add_zero, Int.zero_add, Int.cast_ofNat_Int, Int.sub_zero]; done) | fail) ?_; (conv => whnf)) | (refine sw_in (by first | omega | (simp (disch := omega) only [w32_id, w64_id, x_up_p, x_up_s, x_up_o, x_fill_p, x_fill_i, x_fill_o, x_cpy_p, x_cpy_i, x_cpy_o, x_upR_p, x_upR_s, x_upR_o, x_zM_p, x_zR_p, x_set_p, x_set_s, tb_CM, tb_SM, xm_cats, xm_cat, List.length_cons, List.length_nil, x_cmp_ge, x_cmp_le, x_cmp_gt, x_cmp_lt, x_cmp_eq, not_true_eq_false, not_false_eq_true, true_and, and_true, Int.add_zero, Int.zero_add, Int.cast_ofNat_Int, Int.sub_zero] <;> omega) | (simp (disch := omega) only [w32_id, w64_id, x_up_p, x_up_s, x_up_o, x_fill_p, x_fill_i, x_fill_o, x_cpy_p, x_cpy_i, x_cpy_o, x_upR_p, x_upR_s, x_upR_o, x_zM_p, x_zR_p, x_set_p, x_set_s, tb_CM, tb_SM, xm_cats, xm_cat, List.length_cons, List.length_nil, x_cmp_ge, x_cmp_le, x_cmp_gt, x_cmp_lt, x_cmp_eq, not_true_eq_false, not_false_eq_true, true_and, and_true, Int.add_zero, Int.zero_add, Int.cast_ofNat_Int, Int.sub_zero]; done) | fail) ?_; (conv => whnf)) | (refine sw_hit (by first | omega | (simp (disch := omega) only [w32_id, w64_id, x_up_p, x_up_s, x_up_o, x_fill_p, x_fill_i, x_fill_o, x_cpy_p, x_cpy_i, x_cpy_o, x_upR_p, x_upR_s, x_upR_o, x_zM_p, x_zR_p, x_set_p, x_set_s, tb_CM, tb_SM, xm_cats, xm_cat, List.length_cons, List.length_nil, x_cmp_ge, x_cmp_le, x_cmp_gt, x_cmp_lt, x_cmp_eq, not_true_eq_false, not_false_eq_true, true_and, and_true, Int.add_zero, Int.zero_add, Int.cast_ofNat_Int, Int.sub_zero] <;> omega) | (simp (disch := omega) only [w32_id, w64_id, x_up_p, x_up_s, x_up_o, x_fill_p, x_fill_i, x_fill_o, x_cpy_p, x_cpy_i, x_cpy_o, x_upR_p, x_upR_s, x_upR_o, x_zM_p, x_zR_p, x_set_p, x_set_s, tb_CM, tb_SM, xm_cats, xm_cat, List.length_cons, List.length_nil, x_cmp_ge, x_cmp_le, x_cmp_gt, x_cmp_lt, x_cmp_eq, not_true_eq_false, not_false_eq_true, true_and, and_true, Int.add_zero, Int.zero_add, Int.cast_ofNat_Int, Int.sub_zero]; done) | fail) ?_ (sw_vac (by first | omega | (simp (disch := omega) only [w32_id, w64_id, x_up_p, x_up_s, x_up_o, x_fill_p, x_fill_i, x_fill_o, x_cpy_p, x_cpy_i, x_cpy_o, x_upR_p, x_upR_s, x_upR_o, x_zM_p, x_zR_p, x_set_p, x_set_s, tb_CM, tb_SM, xm_cats, xm_cat, List.length_cons, List.length_nil, x_cmp_ge, x_cmp_le, x_cmp_gt, x_cmp_lt, x_cmp_eq, not_true_eq_false, not_false_eq_true, true_and, and_true, Int.add_zero, Int.zero_add, Int.cast_ofNat_Int, Int.sub_zero] <;> omega) | (simp (disch := omega) only [w32_id, w64_id, x_up_p, x_up_s, x_up_o, x_fill_p, x_fill_i, x_fill_o, x_cpy_p, x_cpy_i, x_cpy_o, x_upR_p, x_upR_s, x_upR_o, x_zM_p, x_zR_p, x_set_p, x_set_s, tb_CM, tb_SM, xm_cats, xm_cat, List.length_cons, List.length_nil, x_cmp_ge, x_cmp_le, x_cmp_gt, x_cmp_lt, x_cmp_eq, not_true_eq_false, not_false_eq_true, true_and, and_true, Int.add_zero, Int.zero_add, Int.cast_ofNat_Int, Int.sub_zero]; done) | fail)); (conv => whnf)) | (refine sw_next (by first | omega | (simp (disch := omega) only [w32_id, w64_id, x_up_p, x_up_s, x_up_o, x_fill_p, x_fill_i, x_fill_o, x_cpy_p, x_cpy_i, x_cpy_o, x_upR_p, x_upR_s, x_upR_o, x_zM_p, x_zR_p, x_set_p, x_set_s, tb_CM, tb_SM, xm_cats, xm_cat, List.length_cons, List.length_nil, x_cmp_ge, x_cmp_le, x_cmp_gt, x_cmp_lt, x_cmp_eq, not_true_eq_false, not_false_eq_true, true_and, and_true, Int.add_zero, Int.zero_add, Int.cast_ofNat_Int, Int.sub_zero] <;> omega) | (simp (disch := omega) only [w32_id, w64_id, x_up_p, x_up_s, x_up_o, x_fill_p, x_fill_i, x_fill_o, x_cpy_p, x_cpy_i, x_cpy_o, x_upR_p, x_upR_s, x_upR_o, x_zM_p, x_zR_p, x_set_p, x_set_s, tb_CM, tb_SM, xm_cats, xm_cat, List.length_cons, List.length_nil, x_cmp_ge, x_cmp_le, x_cmp_gt, x_cmp_lt, x_cmp_eq, not_true_eq_false, not_false_eq_true, true_and, and_true, Int.add_zero, Int.zero_add, Int.cast_ofNat_Int, Int.sub_zero]; done) | fail) ?_; (conv => whnf)) | (refine sw_def (by first | omega | (simp (disch := omega) only [w32_id, w64_id, x_up_p, x_up_s, x_up_o, x_fill_p, x_fill_i, x_fill_o, x_cpy_p, x_cpy_i, x_cpy_o, x_upR_p, x_upR_s, x_upR_o, x_zM_p, x_zR_p, x_set_p, x_set_s, tb_CM, tb_SM, xm_cats, xm_cat, List.length_cons, List.length_nil, x_cmp_ge, x_cmp_le, x_cmp_gt, x_cmp_lt, x_cmp_eq, not_true_eq_false, not_false_eq_true, true_and, and_true, Int.add_zero, Int.zero_add, Int.cast_ofNat_Int, Int.sub_zero] <;> omega) | (simp (disch := omega) only [w32_id, w64_id, x_up_p, x_up_s, x_up_o, x_fill_p, x_fill_i, x_fill_o, x_cpy_p, x_cpy_i, x_cpy_o, x_upR_p, x_upR_s, x_upR_o, x_zM_p, x_zR_p, x_set_p, x_set_s, tb_CM, tb_SM, xm_cats, xm_cat, List.length_cons, List.length_nil, x_cmp_ge, x_cmp_le, x_cmp_gt, x_cmp_lt, x_cmp_eq, not_true_eq_false, not_false_eq_true, true_and, and_true, Int.add_zero, Int.zero_add, Int.cast_ofNat_Int, Int.sub_zero]; done) | fail) ?_; (conv => whnf)) | (refine And.intro (by first | omega | (simp (disch := omega) only [w32_id, w64_id, x_up_p, x_up_s, x_up_o, x_fill_p, x_fill_i, x_fill_o, x_cpy_p, x_cpy_i, x_cpy_o, x_upR_p, x_upR_s, x_upR_o, x_zM_p, x_zR_p, x_set_p, x_set_s, tb_CM, tb_SM, xm_cats, xm_cat, List.length_cons, List.length_nil, x_cmp_ge, x_cmp_le, x_cmp_gt, x_cmp_lt, x_cmp_eq, not_true_eq_false, not_false_eq_true, true_and, and_true, Int.add_zero, Int.zero_add, Int.cast_ofNat_Int, Int.sub_zero] <;> omega) | (simp (disch := omega) only [w32_id, w64_id, x_up_p, x_up_s, x_up_o, x_fill_p, x_fill_i, x_fill_o, x_cpy_p, x_cpy_i, x_cpy_o, x_upR_p, x_upR_s, x_upR_o, x_zM_p, x_zR_p, x_set_p, x_set_s, tb_CM, tb_SM, xm_cats, xm_cat, List.length_cons, List.length_nil, x_cmp_ge, x_cmp_le, x_cmp_gt, x_cmp_lt, x_cmp_eq, not_true_eq_false, not_false_eq_true, true_and, and_true, Int.add_zero, Int.zero_add, Int.cast_ofNat_Int, Int.sub_zero]; done) | fail) ?_; (conv => whnf)))
      try (refine x_go (x_rc rfl (by first | assumption | exact c_E_kd (by assumption) | exact wE_kd (by assumption) | exact c_T_kd (by assumption) | exact c_S_kd (by assumption) | exact (‹c_E _ _ _›).1 | exact tb_dyn (‹c_T _ _ _›).1 | exact (‹c_S _ _ _›).1.1) rfl) ?_; (conv => whnf))
      refine hC _ _ _ _ _ (k_359 (n := c1) (z := z) hE z1 uz5 (by omega) ?_)
      rw [tM_nx z4]
      (conv => whnf)
      refine hF _ _ _ _ _ _ _ ?_
      try simp (disch := omega) only [w32_id, w64_id, x_up_p, x_up_s, x_up_o, x_fill_p, x_fill_i, x_fill_o, x_cpy_p, x_cpy_i, x_cpy_o, x_upR_p, x_upR_s, x_upR_o, x_zM_p, x_zR_p, x_set_p, x_set_s, tb_CM, tb_SM, xm_cats, xm_cat, List.length_cons, List.length_nil, x_cmp_ge, x_cmp_le, x_cmp_gt, x_cmp_lt, x_cmp_eq, not_true_eq_false, not_false_eq_true, true_and, and_true, Int.add_zero, Int.zero_add, Int.cast_ofNat_Int, Int.sub_zero]
      first | exact nx | (have e1 : base + ((k + 1 : Nat) : Int) = base + k + 1 := (by omega); rw [e1] at nx; exact nx)
    · rcases List.mem_cons.mp hu with rfl | hu
      · intro q
        have := x2''.1
        have q' : xv4 = x := q
        rw [q', G4.2.2.2.1 x (by have := hx.2.2.1; omega)] at this
        omega
      · exact hxG1 u hu
    · show v.1 = 1 ↔ 1 + v.1 = 2
      omega
    · rw [k0]
      rcases List.mem_cons.mp hu with rfl | hu
      · exact ⟨o2, hvz⟩
      · exact hW u hu
    · show 1 + yv.2.1 = 2 ↔ 1 + v.1 = 2
      rw [show (1 + yv.2.1 = 2 ↔ yv.2.1 = 1) by omega, kv, t13, ← kd]
      omega
end

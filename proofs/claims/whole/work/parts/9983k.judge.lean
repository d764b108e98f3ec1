/-! THE CLASS'S JUDGE: function after function -/
section
variable {fs f : Nat} {tr : Nat → c_t} {t : Int} {s : k_s} {ρ ρ1 : Nat → Option xk} {e e1 : Nat} {M M1 M2 : Nat → Int → Int} {R R1 R2 : Nat → Int → Option Nat} {sl sl1 : Nat} {ow ow1 : Nat → Int}
/-- between functions -/
def jS (fs : Nat) (tr : Nat → c_t) (t : Int) (s : k_s) (ρ : Nat → Option xk) (e : Nat) (M : Nat → Int → Int) (R : Nat → Int → Option Nat) (sl : Nat) (ow : Nat → Int) : Prop := (kHp ρ e R ow ∧ rm t (ρ, e, M, R, sl) ∧ 0 ≤ t) ∧ M 8 3 = fs ∧ (gS M s ∧ sW s ∧ M 9 6 = 0 ∧ M 9 13 = -1) ∧ (M 8 12 = s.1 5 ∧ M 8 13 = s.1 6) ∧ w10 R ∧ R 8 1 = some 8 ∧ wT fs tr ρ e M R ow
theorem jS_w {G : List c_g} {tn st : Int} (h : wS fs tr f t s G tn st ρ e M R sl ow) : jS fs tr t s ρ e M R sl ow := ⟨h.1, h.2.1.2.2.2.2, h.2.2.2.2.1, h.2.2.2.2.2.1, h.2.2.2.2.2.2.1, h.2.2.2.2.2.2.2.1.1, h.2.2.2.2.2.2.2.2⟩
/-- what judging leaves as it was -/
def jF (fs : Nat) (tr : Nat → c_t) (e : Nat) (ow : Nat → Int) (M : Nat → Int → Int) (R : Nat → Int → Option Nat) (M' : Nat → Int → Int) (R' : Nat → Int → Option Nat) : Prop := (∀ p, wK e 0 0 ow p → (∀ k, k < fs → p ≠ (tr k).1 + 175) → M' p = M p) ∧ (M' 8 3 = M 8 3 ∧ M' 8 14 = M 8 14) ∧ ∀ p i, wRk e ow p → p ≠ 8 → R' p i = R p i
theorem jF_rf : jF fs tr e ow M R M R := ⟨fun _ _ _ => rfl, ⟨rfl, rfl⟩, fun _ _ _ _ => rfl⟩
theorem jF_tr (hg : kG ρ e R sl ow ρ1 e1 R1 sl1 ow1) (h1 : jF fs tr e ow M R M1 R1) (h2 : jF fs tr e1 ow1 M1 R1 M2 R2) : jF fs tr e ow M R M2 R2 := ⟨fun p k q => (h2.1 p (wK_g hg (Int.le_refl _) (Int.le_refl _) k) q).trans (h1.1 p k q), ⟨h2.2.1.1.trans h1.2.1.1, h2.2.1.2.trans h1.2.1.2⟩, fun p i k q => (h2.2.2 p i (wRk_g hg k) q).trans (h1.2.2 p i k q)⟩
theorem jF_w {X : Nat → Prop} {lo hi n tn st : Int} (hf : f < fs) (h : wF X ((tr f).1 + 175) lo hi n e tn st ow M R M1 R1) (ht : 0 ≤ tn) (hs : 0 ≤ st) (hX : ∀ p, wK e 0 0 ow p → ¬ X p) : jF fs tr e ow M R M1 R1 := ⟨fun p k q => h.1 p (wK_g (ρ := fun _ => none) (R := R) (sl := 0) kG_rf ht hs k) (hX p k) (q f hf), ⟨h.2.2.1 3 (by decide) (by decide) (by decide) (by decide) (by decide), h.2.2.1 14 (by decide) (by decide) (by decide) (by decide) (by decide)⟩, fun p i k _ => h.2.2.2.2 p i k⟩
theorem jF_x (hf : f < fs) (h : wFx ((tr f).1 + 175) e ow M R M1 R1) : jF fs tr e ow M R M1 R1 := ⟨fun p k q => h.1 p k (q f hf), ⟨h.2.1 3 (by decide) (by decide) (by decide) (by decide) (by decide), h.2.1 14 (by decide) (by decide) (by decide) (by decide) (by decide)⟩, fun p i k _ => h.2.2 p i k⟩
/-- numbers of the checker and the ground -/
theorem jF_89 (h : ∀ p, p ≠ 8 → p ≠ 9 → M1 p = M p) (h3 : M1 8 3 = M 8 3) (h14 : M1 8 14 = M 8 14) : jF fs tr e ow M R M1 R := ⟨fun p k _ => h p (fun q => by have := k.2.1; omega) (fun q => by have := k.2.1; omega), ⟨h3, h14⟩, fun _ _ _ _ => rfl⟩
theorem k_hd_bk {M0 : Nat → Int → Int} {g v m : Int} : k_hd M0 g (k_bk v m s) = k_hd M0 g s := by
  unfold k_hd k_bk
  have : t_u (t_u (t_u (t_u s.1 0 v) 1 m) 0 (M0 88 g)) 1 0 = t_u (t_u s.1 0 (M0 88 g)) 1 0 := by
    funext i
    by_cases h1 : i = 1
    · rw [t_u_s h1, t_u_s h1]
    · rw [t_u_o h1, t_u_o h1]
      by_cases h0 : i = 0
      · rw [t_u_s h0, t_u_s h0]
      · rw [t_u_o h0, t_u_o h0, t_u_o h1, t_u_o h0]
  simp only [this]
end
section
variable {ρ : Nat → Option xk} {e sl d : Nat} {M : Nat → Int → Int} {R : Nat → Int → Option Nat} {eX : Nat → Nat × (Nat → Int32)} {Q : xK}
variable {fs f : Nat} {tr : Nat → c_t} {t : Int} {s : k_s} {ow : Nat → Int}
-- a function is begun
set_option linter.unusedSimpArgs false in
set_option maxRecDepth 100000 in
set_option maxHeartbeats 4000000 in
theorem w_262 (hE : ∀ j, (eX j).1 ≤ 1000000) (hS : jS fs tr t s ρ e M R sl ow) (hf : f < fs) (hfs : fs ≤ 9) (h4 : M 8 4 = f) (hQ : ∀ M1 R1, kG ρ e R sl ow ρ e R1 sl ow → wS fs tr f t (k_bk 0 0 s) [] 0 0 ρ e M1 R1 sl ow → jF fs tr e ow M R M1 R1 → (∀ p, p ≠ 8 → p ≠ 9 → M1 p = M p) → Q (.inl none) (ρ, e, M1, R1, sl)) : xm_call tb_P eX tb_K0 174 (d + 3) 262 [.inr (.inr (some 9))] (ρ, e, M, R, sl) Q := by
  obtain ⟨⟨a1, a2, a3⟩, b5, ⟨g1, g2, g3⟩, i1, j1, k1, l1⟩ := hS
  obtain ⟨⟨u1, u2, u3, u4, u5⟩, u6, u7⟩ := l1.1 f hf
  obtain ⟨N, hN⟩ : ∃ N, N = x_up (x_up (x_up (x_up (x_up M 9 8 0) 9 7 0) 8 6 0) 8 8 0) 8 11 0 := ⟨_, rfl⟩
  have n1 : ∀ p, p ≠ 8 → p ≠ 9 → N p = M p := fun p p8 p9 => by rw [hN, x_up_ne p8, x_up_ne p8, x_up_ne p8, x_up_ne p9, x_up_ne p9]
  have n8 : ∀ j, j ≠ 6 → j ≠ 8 → j ≠ 11 → N 8 j = M 8 j := fun j j1 j2 j3 => by rw [hN, x_up_o j3, x_up_o j2, x_up_o j1, x_up_p (by decide), x_up_p (by decide)]
  have n9 : ∀ j, j ≠ 7 → j ≠ 8 → N 9 j = M 9 j := fun j j1 j2 => by rw [hN, x_up_p (by decide), x_up_p (by decide), x_up_p (by decide), x_up_o j1, x_up_o j2]
  have n86 : N 8 6 = 0 := by rw [hN, x_up_o (by decide), x_up_o (by decide), x_up_s rfl]
  have n88 : N 8 8 = 0 := by rw [hN, x_up_o (by decide), x_up_s rfl]
  have n811 : N 8 11 = 0 := by rw [hN, x_up_s rfl]
  have n97 : N 9 7 = 0 := by rw [hN, x_up_p (by decide), x_up_p (by decide), x_up_p (by decide), x_up_s rfl]
  have n98 : N 9 8 = 0 := by rw [hN, x_up_p (by decide), x_up_p (by decide), x_up_p (by decide), x_up_o (by decide), x_up_s rfl]
  have r1 : ∀ p i, p ≠ 8 → x_upR R 8 2 (some ((tr f).1 + 175)) p i = R p i := fun p i h => x_upR_p h
  have hg : kG ρ e R sl ow ρ e (x_upR R 8 2 (some ((tr f).1 + 175))) sl ow := ⟨fun _ _ => rfl, Nat.le_refl _, fun x i p c1 _ _ _ c5 => by rw [r1 x i c1]; exact c5, fun _ _ => rfl, fun t M M' q => rm_c q (fun x i hx => r1 x i (by omega)) (fun x i a _ => r1 x i (by omega)) (Nat.le_refl _) (by omega) (by omega)⟩
  have g1' := g1.1
  have g12 := g1.2.1
  have hw : wS fs tr f t (k_bk 0 0 s) [] 0 0 ρ e N (x_upR R 8 2 (some ((tr f).1 + 175))) sl ow := by
    refine ⟨⟨kHp_R a1 (fun x i _ _ h => r1 x i h), hg.2.2.2.2 t M N a2, a3⟩, ⟨n86, n88, n811, by rw [n8 4 (by decide) (by decide) (by decide)]; exact h4, by rw [n8 3 (by decide) (by decide) (by decide)]; exact b5⟩, ⟨by decide, by decide, by decide, by decide, by simp⟩, ⟨trivial, fun g hg => absurd hg (by simp)⟩, ⟨gS_bk g1 (by omega) (by omega) n98 n97 n9 (n1 14 (by decide) (by decide)) (n1 15 (by decide) (by decide)), ?_, by rw [n9 6 (by decide) (by decide)]; exact g3.1, by rw [n9 13 (by decide) (by decide)]; exact g3.2⟩, ⟨?_, ?_⟩, ?_, ⟨?_, x_upR_s rfl, hf⟩, wT_go l1 hg (fun i => r1 7 i (by decide)) (fun k hk => n1 _ (by omega) (by omega)) (fun k hk => by rw [n1 _ (by omega) (by omega)]; exact (l1.1 k hk).2.2)⟩
    · intro j j0 j1
      exfalso
      have : t_u (t_u s.1 0 0) 1 0 1 = 0 := t_u_s rfl
      have j1 : j < t_u (t_u s.1 0 0) 1 0 1 := j1
      omega
    · rw [n8 12 (by decide) (by decide) (by decide)]
      show _ = t_u (t_u s.1 0 0) 1 0 5
      rw [t_u_o (by decide), t_u_o (by decide)]
      exact i1.1
    · rw [n8 13 (by decide) (by decide) (by decide)]
      show _ = t_u (t_u s.1 0 0) 1 0 6
      rw [t_u_o (by decide), t_u_o (by decide)]
      exact i1.2
    · unfold w10 at j1 ⊢
      rw [r1 10 0 (by decide), r1 10 1 (by decide)]
      exact j1
    · rw [x_upR_o (by decide)]
      exact k1
  have fin := hQ N _ hg hw ⟨fun p k q => n1 p (fun z => by have := k.2.1; omega) (fun z => by have := k.2.1; omega), ⟨n8 3 (by decide) (by decide) (by decide), n8 14 (by decide) (by decide) (by decide)⟩, fun p i k q => r1 p i q⟩ n1
  rw [hN] at fin
  have u1' : R 7 (M 8 4) = some ((tr f).1 + 175) := by rw [h4]; exact u1
  refine xm_run hE (fun _ _ => none) (fun k => Nat.beq k 250) (fun F C hF hC => ?_)
  (conv => whnf)
  repeat (first | (rw [k1]; (conv => whnf)) | (rw [u1']; (conv => whnf)) | (refine br_t (by first | omega | (simp (disch := omega) only [w32_id, w64_id, x_up_p, x_up_s, x_up_o, x_fill_p, x_fill_i, x_fill_o, x_cpy_p, x_cpy_i, x_cpy_o, x_upR_p, x_upR_s, x_upR_o, x_zM_p, x_zR_p, x_set_p, x_set_s, tb_CM, tb_SM, xm_cats, xm_cat, List.length_cons, List.length_nil, x_cmp_ge, x_cmp_le, x_cmp_gt, x_cmp_lt, x_cmp_eq, not_true_eq_false, not_false_eq_true, true_and, and_true, Int.add_zero, Int.zero_add, Int.cast_ofNat_Int, Int.sub_zero, h4] <;> omega) | (simp (disch := omega) only [w32_id, w64_id, x_up_p, x_up_s, x_up_o, x_fill_p, x_fill_i, x_fill_o, x_cpy_p, x_cpy_i, x_cpy_o, x_upR_p, x_upR_s, x_upR_o, x_zM_p, x_zR_p, x_set_p, x_set_s, tb_CM, tb_SM, xm_cats, xm_cat, List.length_cons, List.length_nil, x_cmp_ge, x_cmp_le, x_cmp_gt, x_cmp_lt, x_cmp_eq, not_true_eq_false, not_false_eq_true, true_and, and_true, Int.add_zero, Int.zero_add, Int.cast_ofNat_Int, Int.sub_zero, h4]; done) | fail) ?_; (conv => whnf)) | (refine br_f (by first | omega | (simp (disch := omega) only [w32_id, w64_id, x_up_p, x_up_s, x_up_o, x_fill_p, x_fill_i, x_fill_o, x_cpy_p, x_cpy_i, x_cpy_o, x_upR_p, x_upR_s, x_upR_o, x_zM_p, x_zR_p, x_set_p, x_set_s, tb_CM, tb_SM, xm_cats, xm_cat, List.length_cons, List.length_nil, x_cmp_ge, x_cmp_le, x_cmp_gt, x_cmp_lt, x_cmp_eq, not_true_eq_false, not_false_eq_true, true_and, and_true, Int.add_zero, Int.zero_add, Int.cast_ofNat_Int, Int.sub_zero, h4] <;> omega) | (simp (disch := omega) only [w32_id, w64_id, x_up_p, x_up_s, x_up_o, x_fill_p, x_fill_i, x_fill_o, x_cpy_p, x_cpy_i, x_cpy_o, x_upR_p, x_upR_s, x_upR_o, x_zM_p, x_zR_p, x_set_p, x_set_s, tb_CM, tb_SM, xm_cats, xm_cat, List.length_cons, List.length_nil, x_cmp_ge, x_cmp_le, x_cmp_gt, x_cmp_lt, x_cmp_eq, not_true_eq_false, not_false_eq_true, true_and, and_true, Int.add_zero, Int.zero_add, Int.cast_ofNat_Int, Int.sub_zero, h4]; done) | fail) ?_; (conv => whnf)) | (refine sw_in (by first | omega | (simp (disch := omega) only [w32_id, w64_id, x_up_p, x_up_s, x_up_o, x_fill_p, x_fill_i, x_fill_o, x_cpy_p, x_cpy_i, x_cpy_o, x_upR_p, x_upR_s, x_upR_o, x_zM_p, x_zR_p, x_set_p, x_set_s, tb_CM, tb_SM, xm_cats, xm_cat, List.length_cons, List.length_nil, x_cmp_ge, x_cmp_le, x_cmp_gt, x_cmp_lt, x_cmp_eq, not_true_eq_false, not_false_eq_true, true_and, and_true, Int.add_zero, Int.zero_add, Int.cast_ofNat_Int, Int.sub_zero, h4] <;> omega) | (simp (disch := omega) only [w32_id, w64_id, x_up_p, x_up_s, x_up_o, x_fill_p, x_fill_i, x_fill_o, x_cpy_p, x_cpy_i, x_cpy_o, x_upR_p, x_upR_s, x_upR_o, x_zM_p, x_zR_p, x_set_p, x_set_s, tb_CM, tb_SM, xm_cats, xm_cat, List.length_cons, List.length_nil, x_cmp_ge, x_cmp_le, x_cmp_gt, x_cmp_lt, x_cmp_eq, not_true_eq_false, not_false_eq_true, true_and, and_true, Int.add_zero, Int.zero_add, Int.cast_ofNat_Int, Int.sub_zero, h4]; done) | fail) ?_; (conv => whnf)) | (refine sw_hit (by first | omega | (simp (disch := omega) only [w32_id, w64_id, x_up_p, x_up_s, x_up_o, x_fill_p, x_fill_i, x_fill_o, x_cpy_p, x_cpy_i, x_cpy_o, x_upR_p, x_upR_s, x_upR_o, x_zM_p, x_zR_p, x_set_p, x_set_s, tb_CM, tb_SM, xm_cats, xm_cat, List.length_cons, List.length_nil, x_cmp_ge, x_cmp_le, x_cmp_gt, x_cmp_lt, x_cmp_eq, not_true_eq_false, not_false_eq_true, true_and, and_true, Int.add_zero, Int.zero_add, Int.cast_ofNat_Int, Int.sub_zero, h4] <;> omega) | (simp (disch := omega) only [w32_id, w64_id, x_up_p, x_up_s, x_up_o, x_fill_p, x_fill_i, x_fill_o, x_cpy_p, x_cpy_i, x_cpy_o, x_upR_p, x_upR_s, x_upR_o, x_zM_p, x_zR_p, x_set_p, x_set_s, tb_CM, tb_SM, xm_cats, xm_cat, List.length_cons, List.length_nil, x_cmp_ge, x_cmp_le, x_cmp_gt, x_cmp_lt, x_cmp_eq, not_true_eq_false, not_false_eq_true, true_and, and_true, Int.add_zero, Int.zero_add, Int.cast_ofNat_Int, Int.sub_zero, h4]; done) | fail) ?_ (sw_vac (by first | omega | (simp (disch := omega) only [w32_id, w64_id, x_up_p, x_up_s, x_up_o, x_fill_p, x_fill_i, x_fill_o, x_cpy_p, x_cpy_i, x_cpy_o, x_upR_p, x_upR_s, x_upR_o, x_zM_p, x_zR_p, x_set_p, x_set_s, tb_CM, tb_SM, xm_cats, xm_cat, List.length_cons, List.length_nil, x_cmp_ge, x_cmp_le, x_cmp_gt, x_cmp_lt, x_cmp_eq, not_true_eq_false, not_false_eq_true, true_and, and_true, Int.add_zero, Int.zero_add, Int.cast_ofNat_Int, Int.sub_zero, h4] <;> omega) | (simp (disch := omega) only [w32_id, w64_id, x_up_p, x_up_s, x_up_o, x_fill_p, x_fill_i, x_fill_o, x_cpy_p, x_cpy_i, x_cpy_o, x_upR_p, x_upR_s, x_upR_o, x_zM_p, x_zR_p, x_set_p, x_set_s, tb_CM, tb_SM, xm_cats, xm_cat, List.length_cons, List.length_nil, x_cmp_ge, x_cmp_le, x_cmp_gt, x_cmp_lt, x_cmp_eq, not_true_eq_false, not_false_eq_true, true_and, and_true, Int.add_zero, Int.zero_add, Int.cast_ofNat_Int, Int.sub_zero, h4]; done) | fail)); (conv => whnf)) | (refine sw_next (by first | omega | (simp (disch := omega) only [w32_id, w64_id, x_up_p, x_up_s, x_up_o, x_fill_p, x_fill_i, x_fill_o, x_cpy_p, x_cpy_i, x_cpy_o, x_upR_p, x_upR_s, x_upR_o, x_zM_p, x_zR_p, x_set_p, x_set_s, tb_CM, tb_SM, xm_cats, xm_cat, List.length_cons, List.length_nil, x_cmp_ge, x_cmp_le, x_cmp_gt, x_cmp_lt, x_cmp_eq, not_true_eq_false, not_false_eq_true, true_and, and_true, Int.add_zero, Int.zero_add, Int.cast_ofNat_Int, Int.sub_zero, h4] <;> omega) | (simp (disch := omega) only [w32_id, w64_id, x_up_p, x_up_s, x_up_o, x_fill_p, x_fill_i, x_fill_o, x_cpy_p, x_cpy_i, x_cpy_o, x_upR_p, x_upR_s, x_upR_o, x_zM_p, x_zR_p, x_set_p, x_set_s, tb_CM, tb_SM, xm_cats, xm_cat, List.length_cons, List.length_nil, x_cmp_ge, x_cmp_le, x_cmp_gt, x_cmp_lt, x_cmp_eq, not_true_eq_false, not_false_eq_true, true_and, and_true, Int.add_zero, Int.zero_add, Int.cast_ofNat_Int, Int.sub_zero, h4]; done) | fail) ?_; (conv => whnf)) | (refine sw_def (by first | omega | (simp (disch := omega) only [w32_id, w64_id, x_up_p, x_up_s, x_up_o, x_fill_p, x_fill_i, x_fill_o, x_cpy_p, x_cpy_i, x_cpy_o, x_upR_p, x_upR_s, x_upR_o, x_zM_p, x_zR_p, x_set_p, x_set_s, tb_CM, tb_SM, xm_cats, xm_cat, List.length_cons, List.length_nil, x_cmp_ge, x_cmp_le, x_cmp_gt, x_cmp_lt, x_cmp_eq, not_true_eq_false, not_false_eq_true, true_and, and_true, Int.add_zero, Int.zero_add, Int.cast_ofNat_Int, Int.sub_zero, h4] <;> omega) | (simp (disch := omega) only [w32_id, w64_id, x_up_p, x_up_s, x_up_o, x_fill_p, x_fill_i, x_fill_o, x_cpy_p, x_cpy_i, x_cpy_o, x_upR_p, x_upR_s, x_upR_o, x_zM_p, x_zR_p, x_set_p, x_set_s, tb_CM, tb_SM, xm_cats, xm_cat, List.length_cons, List.length_nil, x_cmp_ge, x_cmp_le, x_cmp_gt, x_cmp_lt, x_cmp_eq, not_true_eq_false, not_false_eq_true, true_and, and_true, Int.add_zero, Int.zero_add, Int.cast_ofNat_Int, Int.sub_zero, h4]; done) | fail) ?_; (conv => whnf)) | (refine And.intro (by first | omega | (simp (disch := omega) only [w32_id, w64_id, x_up_p, x_up_s, x_up_o, x_fill_p, x_fill_i, x_fill_o, x_cpy_p, x_cpy_i, x_cpy_o, x_upR_p, x_upR_s, x_upR_o, x_zM_p, x_zR_p, x_set_p, x_set_s, tb_CM, tb_SM, xm_cats, xm_cat, List.length_cons, List.length_nil, x_cmp_ge, x_cmp_le, x_cmp_gt, x_cmp_lt, x_cmp_eq, not_true_eq_false, not_false_eq_true, true_and, and_true, Int.add_zero, Int.zero_add, Int.cast_ofNat_Int, Int.sub_zero, h4] <;> omega) | (simp (disch := omega) only [w32_id, w64_id, x_up_p, x_up_s, x_up_o, x_fill_p, x_fill_i, x_fill_o, x_cpy_p, x_cpy_i, x_cpy_o, x_upR_p, x_upR_s, x_upR_o, x_zM_p, x_zR_p, x_set_p, x_set_s, tb_CM, tb_SM, xm_cats, xm_cat, List.length_cons, List.length_nil, x_cmp_ge, x_cmp_le, x_cmp_gt, x_cmp_lt, x_cmp_eq, not_true_eq_false, not_false_eq_true, true_and, and_true, Int.add_zero, Int.zero_add, Int.cast_ofNat_Int, Int.sub_zero, h4]; done) | fail) ?_; (conv => whnf)))
  exact fin
end

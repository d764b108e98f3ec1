/-! DEFINE: both sides -/
theorem de_same {tk : Int → t_t} {c n z sv sr : Int} {A T F : Int → Int} {M : Nat → Int → Int} (hS : t_S tk c) (hp : ∀ i, 0 ≤ (tk i).2.1) (hc1 : 1 ≤ c) (hsv : dS tk A n T F z sv) (hA : ∀ k, 0 ≤ k → k < n → w_w (A k) (M 86 k)) (hfr : fRt tk c n M T F z) (h4 : (M 81 50 < 0 ∧ z_eq (M 86) n 0 → sr = (tk 1).2.1) ∧ (¬ (M 81 50 < 0 ∧ z_eq (M 86) n 0) → sr = M 81 50)) : sr = sv := by
  obtain ⟨la, lb, n1, n2, n3, n4, n5⟩ := hsv
  obtain ⟨l1, L, ps, x, ⟨⟨a1, a2, a3, a4⟩, b, c1, c2, c3, c4, c5, c6⟩, ⟨⟨d1, d2⟩, d3, d4, d5⟩, -, -, i0, ⟨i1, i2, i3, i4⟩⟩ := hfr
  have e1 : z_fs tk [] (la ++ lb) = z_fs tk [] (l1 ++ ps.map Prod.fst) := z_fs_g rfl (by rw [List.map_append, List.map_append, nmT_g n1 d2, nmT_g n2 (paT_nm d5)])
  have e2 : M 81 50 = z_fs tk [] (la ++ lb) := by
    rw [e1, i0]
    exact z_sm_f hS (fun i _ _ => hp i) _ [] (fun _ h => by cases h) (fun i hi => (List.mem_append.mp hi).elim (a4 i) (c5 i))
  have e3 := z_fs_n hp (la ++ lb) []
  have w1 : w_w (F 2) (M 86 n) := by rw [i1, i2]; exact z_ww (hS.2.2.1 1 (by omega) hc1) i4
  by_cases h0 : 0 ≤ z_fs tk [] (la ++ lb)
  · rw [h4.2 (fun q => by have := q.1; omega), n3 h0, e2]
  · by_cases hz : z_eq (M 86) n 0
    · have : ∃ i, 0 ≤ i ∧ i < n ∧ A i = F 2 := by
        obtain ⟨i, a, b, q⟩ := hz
        exact ⟨i, a, b, (w_w_eq (hA i a b) w1).mpr q⟩
      rw [h4.1 ⟨by omega, hz⟩, n4 (by omega) this, i3]
    · have : ¬ ∃ i, 0 ≤ i ∧ i < n ∧ A i = F 2 := fun ⟨i, a, b, q⟩ => hz ⟨i, a, b, (w_w_eq (hA i a b) w1).mp q⟩
      rw [h4.2 (fun q => hz q.2), n5 (by omega) this, e2]
      omega
theorem dX_of {n : Int} {q e : Nat} {M1 M2 Mr M3 : Nat → Int → Int} (m3 : ∀ x, x ≠ 0 → x ≠ 1 → x ≠ 3 → x ≠ 4 → x ≠ 5 → x ≠ 6 → x ≠ q + 174 → x ≠ q + 175 → x ≠ e + 174 → M2 x = M1 x) (m4 : ∀ j, j < 5 → M2 1 j = M1 1 j) (g1 : dG n (x_up M2 81 0 0) Mr) (g2 : ∀ x, x ≠ 81 → M3 x = Mr x) (g4 : ∀ j, j ≠ 7 → j ≠ 10 → j ≠ 50 → j ≠ 62 → j ≠ 63 → j ≠ 64 → j ≠ 65 → j ≠ 66 → j ≠ 67 → M3 81 j = Mr 81 j) : dX q e M1 M3 ∧ dY n M1 M3 ∧ (∀ x, x = 0 ∨ 174 ≤ x → M3 x = M2 x) ∧ (∀ j, j = 10 ∨ (62 ≤ j ∧ j ≤ 67) → Mr 81 j = M1 81 j) ∧ ∀ k, k ≠ n → Mr 86 k = M1 86 k := by
  obtain ⟨a, b, ⟨p, qq, r⟩, cc, dd, ee, ff, gg, j9⟩ := g1
  have n1 : ∀ x, x ≠ 81 → x_up M2 81 0 0 x = M2 x := fun x hx => x_up_ne hx
  have m5 : ∀ x, 81 ≤ x → x < 174 → M2 x = M1 x := fun x _ _ => m3 x (by omega) (by omega) (by omega) (by omega) (by omega) (by omega) (by omega) (by omega) (by omega)
  have m6 : ∀ x, 82 ≤ x → x < 174 → x_up M2 81 0 0 x = M1 x := fun x _ _ => by rw [n1 x (by omega)]; exact m5 x (by omega) (by omega)
  have b' : ∀ j, j ≠ 0 → j ≠ 6 → j ≠ 8 → j ≠ 9 → j ≠ 21 → j ≠ 30 → j ≠ 34 → j ≠ 38 → j ≠ 42 → j ≠ 48 → j ≠ 50 → j ≠ 51 → j ≠ 61 → Mr 81 j = M1 81 j := fun j y0 y1 y2 y3 y4 y5 y6 y7 y8 y9 y10 y11 y12 => by rw [b j y1 y2 y3 y4 y5 y6 y7 y8 y9 y10 y11 y12, x_up_o y0, m5 81 (by decide) (by decide)]
  refine ⟨⟨fun x c0 c1 c3 c4 c5 c6 cq cq1 ce c81 cr => by rw [g2 x c81, a x c81 cr, n1 x c81]; exact m3 x c0 c1 c3 c4 c5 c6 cq cq1 ce, fun j hj => by rw [g2 1 (by decide), a 1 (by decide) (by decide), n1 1 (by decide)]; exact m4 j hj, fun j z0 z6 z7 z8 z9 z10 z21 z30 z34 z38 z42 z48 z50 z51 z61 z62 z63 z64 z65 z66 z67 => by rw [g4 j z7 z10 z50 z62 z63 z64 z65 z66 z67]; exact b' j z0 z6 z8 z9 z21 z30 z34 z38 z42 z48 z50 z51 z61⟩, ⟨⟨fun x i u v w y s t => by rw [g2 x (by omega), p x i u v w y s t, m6 x (by omega) (by omega)], fun i u => by rw [g2 87 (by decide), qq i u, m6 87 (by decide) (by decide)], fun x i u v => by rw [g2 x (by omega), r x i u v, m6 x (by omega) (by omega)]⟩, fun x i u v w => by rw [g2 x (by omega), cc x i u v w, m6 x (by omega) (by omega)], fun x i u v w => by rw [g2 x (by omega), dd x i u v w, m6 x (by omega) (by omega)], fun x i u v w => by rw [g2 x (by omega), ee x i u v w, m6 x (by omega) (by omega)], fun x i u v w => by rw [g2 x (by omega), ff x i u v w, m6 x (by omega) (by omega)], fun x i u v w => by rw [g2 x (by omega), gg x i u v w, m6 x (by omega) (by omega)], fun i w => by rw [g2 118 (by decide), j9 i w, m6 118 (by decide) (by decide)]⟩, fun x hx => by rw [g2 x (by omega), a x (by omega) (by omega), n1 x (by omega)], fun j hj => b' j (by omega) (by omega) (by omega) (by omega) (by omega) (by omega) (by omega) (by omega) (by omega) (by omega) (by omega) (by omega) (by omega), fun k hk => by rw [p 86 k (by decide) (by decide) (by decide) (by decide) (by decide) hk, m6 86 (by decide) (by decide)]⟩
section
variable {ρ1 : Nat → Option xk} {e1 sl1 q : Nat} {M1 M2 Mr M3 : Nat → Int → Int} {R1 : Nat → Int → Option Nat} {n t : Int}
theorem de_cT (f1 : fnP (ρ1, e1, M1, R1, sl1)) (hn8 : 0 ≤ n ∧ n ≤ 8) (hq : R1 7 n = some (q + 175)) : c_T ρ1 R1 q ∧ q + 2 ≤ e1 := by
  rcases f1.1 n hn8.1 hn8.2 with g | ⟨w, k1, k2, k3⟩
  · dsimp only at g; rw [hq] at g; cases g
  · dsimp only at k1 k2 k3
    rw [hq] at k1
    injection k1 with k1
    have : w = q := by omega
    subst this
    exact ⟨k2, k3⟩
theorem de_tr (f1 : fnP (ρ1, e1, M1, R1, sl1)) (hn1 : M1 0 9 = n) (hn8 : 0 ≤ n ∧ n ≤ 8) (hq : R1 7 n = some (q + 175)) : ∃ A : Int → Int, trN ρ1 M1 R1 A n ∧ (∀ k, 0 ≤ k → k < n → ∀ qk : Nat, R1 7 k = some (qk + 175) → qk ≠ q ∧ qk ≠ q + 1) ∧ ∀ k, 0 ≤ k → k < n → w_w (A k) (M1 86 k) := by
  have hcq := de_cT f1 hn8 hq
  have tr : ∀ k, 0 ≤ k → k < n → ∃ w : Nat, R1 7 k = some (w + 175) ∧ c_T ρ1 R1 w ∧ w ≠ q ∧ M1 (w + 174) 2 = M1 ((R1 7 k).getD 0 - 1) 2 ∧ w_w (M1 ((R1 7 k).getD 0 - 1) 2) (M1 86 k) := fun k a b => by
    obtain ⟨w, w1, w2, w3⟩ := f1.2.2 k a (by omega) (by dsimp only; omega)
    dsimp only at w1 w2 w3
    have eA : M1 (w + 174) 2 = M1 ((R1 7 k).getD 0 - 1) 2 := by rw [w1]; rfl
    refine ⟨w, w1, (de_cT f1 ⟨a, by omega⟩ w1).1, fun z => f1.2.1 k n w a (by omega) hn8.1 hn8.2 (by omega) w1 (by dsimp only; rw [z]; exact hq), eA, ?_⟩
    rw [← eA]
    obtain ⟨_, _, _, _, ww, _⟩ := w3
    rw [mf_ne (by decide)] at ww
    exact ww
  refine ⟨fun k => M1 ((R1 7 k).getD 0 - 1) 2, fun k a b => ?_, fun k a b qk hk => ?_, fun k a b => ?_⟩
  · obtain ⟨w, w1, w2, w3, w4, w5⟩ := tr k a b
    exact ⟨w, w1, w2.1, w4⟩
  · obtain ⟨w, w1, w2, w3, w4, w5⟩ := tr k a b
    rw [w1] at hk
    injection hk with hk
    have : w = qk := by omega
    subst this
    refine ⟨w3, fun z => ?_⟩
    have z1 := w2.1
    rw [z, hcq.1.2.1] at z1
    cases z1
  · obtain ⟨w, w1, w2, w3, w4, w5⟩ := tr k a b
    exact w5
theorem de_sv {tk : Int → t_t} {A F T : Int → Int} {z sv c : Int} (hp : ∀ i, 0 ≤ (tk i).2.1) (hsv : dS tk A n T F z sv) (hfr : fRt tk c n Mr T F z) (h : sv < 0) : sv = -1 := by
  obtain ⟨la, lb, -, -, z1, z2, z3⟩ := hsv
  have e3 := z_fs_n hp (la ++ lb) []
  by_cases h1 : 0 ≤ z_fs tk [] (la ++ lb)
  · have := z1 h1; omega
  · by_cases h2 : ∃ i, 0 ≤ i ∧ i < n ∧ A i = F 2
    · have h3 := z2 (by omega) h2
      obtain ⟨l1, L, ps, x, -, -, -, -, -, ⟨-, -, i3, -⟩⟩ := hfr
      have := hp 1
      omega
    · exact z3 (by omega) h2
theorem gD_of (hn1 : M1 0 9 = n) (hx : dX q e1 M1 M3) (hy : dY n M1 M3) (h0 : ∀ j, j ≠ 10 → M3 0 j = M1 0 j) : gD M1 M3 := by
  obtain ⟨x1, -, -⟩ := hx
  refine ⟨?_, fun hN => nAl_y hN (by rw [h0 9 (by decide)]; exact Int.le_refl _) (by rw [h0 9 (by decide), hn1]; exact Int.le_refl _) hy⟩
  exact .inr ⟨h0 11 (by decide), h0 9 (by decide), by rw [x1 8 (by decide) (by decide) (by decide) (by decide) (by decide) (by decide) (by omega) (by omega) (by omega) (by decide) (by omega)], fun x j hx => by rw [x1 x (by omega) (by omega) (by omega) (by omega) (by omega) (by omega) (by omega) (by omega) (by omega) (by omega) (by omega)], by rw [hn1]; exact hy⟩
/-- a wrong text -/
theorem de_end_a {a : Int} (v1 : iv (ρ1, e1, M1, R1, sl1)) (f1 : fnP (ρ1, e1, M1, R1, sl1)) (r1 : rm (t + 1) (ρ1, e1, M1, R1, sl1)) (hn1 : M1 0 9 = n) (hn8 : 0 ≤ n ∧ n ≤ 8) (hq : R1 7 n = some (q + 175)) (m1 : M2 0 10 = a) (m2 : ∀ j, j ≠ 10 → M2 0 j = M1 0 j) (m3 : ∀ x, x ≠ 0 → x ≠ 1 → x ≠ 3 → x ≠ 4 → x ≠ 5 → x ≠ 6 → x ≠ q + 174 → x ≠ q + 175 → x ≠ e1 + 174 → M2 x = M1 x) (m4 : ∀ j, j < 5 → M2 1 j = M1 1 j) (g1 : dG n (x_up M2 81 0 0) Mr) (g2 : ∀ x, x ≠ 81 → M3 x = Mr x) (g3 : M3 81 7 = a) (g4 : ∀ j, j ≠ 7 → M3 81 j = Mr 81 j) : iv (x_new ρ1 e1 (.inr (13, [])), e1 + 1, M3, x_zR (d_rd q R1) (e1 + 174), sl1 + 6) ∧ fnP (x_new ρ1 e1 (.inr (13, [])), e1 + 1, M3, x_zR (d_rd q R1) (e1 + 174), sl1 + 6) ∧ rm t (x_new ρ1 e1 (.inr (13, [])), e1 + 1, M3, x_zR (d_rd q R1) (e1 + 174), sl1 + 6) ∧ gD M1 M3 := by
  have hcq := de_cT f1 hn8 hq
  obtain ⟨x1, x2, x3, x4, x5⟩ := dX_of m3 m4 g1 g2 (fun j a _ _ _ _ _ _ _ _ => g4 j a)
  have RD : ∀ x i, 174 ≤ x → x < e1 + 174 → x_zR (d_rd q R1) (e1 + 174) x i = R1 x i := fun x i a b => by rw [x_zR_p (by omega)]; exact d_rd_ne (by omega)
  have RS : ∀ x i, x = 7 ∨ x = 33 ∨ x = 34 ∨ x = 38 → x_zR (d_rd q R1) (e1 + 174) x i = R1 x i := fun x i a => by rw [x_zR_p (by omega)]; exact d_rd_ne (by omega)
  have eρ : ∀ i, i < e1 → x_new ρ1 e1 (.inr (13, [])) i = ρ1 i := fun i hi => by unfold x_new; rw [if_neg (by omega)]
  refine ⟨?_, ?_, rm_c r1 RS RD (by omega) (by omega) (by omega), gD_of hn1 x1 x2 (fun j hj => by rw [x3 0 (.inl rfl)]; exact m2 j hj)⟩
  · exact de_ivf v1 x1 (fun j hj => by rw [x3 0 (.inl rfl)]; exact m2 j hj) (by rw [x3 0 (.inl rfl), m1, g3]) (fun j hj => by rw [g4 j (by omega)]; exact x4 j hj) hcq.1 eρ (by omega) (fun x i hx => RS x i (by omega))
  · exact de_fn f1 hn1 hn8 hq x1 x2 eρ (by omega) (fun i => RS 7 i (.inl rfl)) RD (.inl (by rw [x3 0 (.inl rfl), m2 9 (by decide)]; exact hn1))
theorem de_rm (r1 : rm (t + 1) (ρ1, e1, M1, R1, sl1)) : rm t (ρ1, e1, M3, d_rd q R1, sl1) := rm_c r1 (fun x i hx => d_rd_ne (by omega)) (fun x i a _ => d_rd_ne (by omega)) (by omega) (by omega) (by omega)
/-- nothing is new -/
theorem de_end_b {a : Int} (v1 : iv (ρ1, e1, M1, R1, sl1)) (f1 : fnP (ρ1, e1, M1, R1, sl1)) (r1 : rm (t + 1) (ρ1, e1, M1, R1, sl1)) (hn1 : M1 0 9 = n) (hn8 : 0 ≤ n ∧ n ≤ 8) (hq : R1 7 n = some (q + 175)) (m1 : M2 0 10 = a) (m2 : ∀ j, j ≠ 10 → M2 0 j = M1 0 j) (m3 : ∀ x, x ≠ 0 → x ≠ 1 → x ≠ 3 → x ≠ 4 → x ≠ 5 → x ≠ 6 → x ≠ q + 174 → x ≠ q + 175 → M2 x = M1 x) (m4 : ∀ j, j < 5 → M2 1 j = M1 1 j) (g1 : dG n (x_up M2 81 0 0) Mr) (g2 : ∀ x, x ≠ 81 → M3 x = Mr x) (g3 : M3 81 7 = a) (g4 : ∀ j, j ≠ 7 → j ≠ 50 → M3 81 j = Mr 81 j) : iv (ρ1, e1, M3, d_rd q R1, sl1) ∧ fnP (ρ1, e1, M3, d_rd q R1, sl1) ∧ rm t (ρ1, e1, M3, d_rd q R1, sl1) ∧ gD M1 M3 := by
  have hcq := de_cT f1 hn8 hq
  obtain ⟨x1, x2, x3, x4, x5⟩ := dX_of (fun x a b c e g k l m _ => m3 x a b c e g k l m) m4 g1 g2 (fun j a _ b _ _ _ _ _ _ => g4 j a b)
  have RD : ∀ x i, 174 ≤ x → x < e1 + 174 → d_rd q R1 x i = R1 x i := fun x i a b => d_rd_ne (by omega)
  refine ⟨?_, ?_, de_rm r1, gD_of hn1 x1 x2 (fun j hj => by rw [x3 0 (.inl rfl)]; exact m2 j hj)⟩
  · exact de_ivf v1 x1 (fun j hj => by rw [x3 0 (.inl rfl)]; exact m2 j hj) (by rw [x3 0 (.inl rfl), m1, g3]) (fun j hj => by rw [g4 j (by omega) (by omega)]; exact x4 j hj) hcq.1 (fun i _ => rfl) (by omega) (fun x i hx => d_rd_ne (by omega))
  · exact de_fn f1 hn1 hn8 hq x1 x2 (fun i _ => rfl) (by omega) (fun i => d_rd_ne (by decide)) RD (.inl (by rw [x3 0 (.inl rfl), m2 9 (by decide)]; exact hn1))
/-- a function is new -/
theorem de_end_s {tk : Int → t_t} {c p' z' : Int} {T' F' : Int → Int} (hp : ∀ i, 0 ≤ (tk i).2.1) (h5 : Mr 81 50 < 0) (hS : t_S tk c) (hc1 : 1 ≤ c) (v1 : iv (ρ1, e1, M1, R1, sl1)) (f1 : fnP (ρ1, e1, M1, R1, sl1)) (r1 : rm (t + 1) (ρ1, e1, M1, R1, sl1)) (hn1 : M1 0 9 = n) (hn8 : 0 ≤ n ∧ n < 8) (hq : R1 7 n = some (q + 175)) (u0 : rT tk c ρ1 e1 M2 (d_rd q R1) q p' z' T' F') (m1 : M2 0 10 = -1) (k9 : M2 0 9 = n + 1) (k11 : M2 0 11 = 0) (m3 : ∀ x, x ≠ 0 → x ≠ 1 → x ≠ 3 → x ≠ 4 → x ≠ 5 → x ≠ 6 → x ≠ q + 174 → x ≠ q + 175 → M2 x = M1 x) (m4 : ∀ j, j < 5 → M2 1 j = M1 1 j) (b1 : fRt tk c n Mr T' F' z') (b2 : cB n Mr) (hX : fXt T' F' z') (g1 : dG n (x_up M2 81 0 0) Mr) (g2 : ∀ x, x ≠ 81 → M3 x = Mr x) (g3 : M3 81 7 = -1) (g9 : M3 81 10 = n + 1) (gz : M3 81 62 = 0 ∧ M3 81 63 = 0 ∧ M3 81 64 = 0 ∧ M3 81 65 = 0 ∧ M3 81 66 = -1 ∧ M3 81 67 = 0) (g4 : ∀ j, j ≠ 7 → j ≠ 50 → (81, j) ≠ ((81 : Nat), (10 : Int)) → M3 81 j = Mr 81 j ∨ j = 62 ∨ j = 63 ∨ j = 64 ∨ j = 65 ∨ j = 66 ∨ j = 67) : iv (ρ1, e1, M3, d_rd q R1, sl1) ∧ fnP (ρ1, e1, M3, d_rd q R1, sl1) ∧ rm t (ρ1, e1, M3, d_rd q R1, sl1) ∧ gD M1 M3 := by
  obtain ⟨x1, x2, x3, x4, x5⟩ := dX_of (fun x a b c e g k l m _ => m3 x a b c e g k l m) m4 g1 g2 (fun j a b c e1 e2 e3 e4 e5 e6 => by rcases g4 j a c (fun z => by injection z with _ z; omega) with h | h | h | h | h | h | h; exact h; all_goals omega)
  have zz : M2 (q + 174) 1 = z' ∧ 1 ≤ z' ∧ z' ≤ 500 := u0.1.2.2.2.2.2.1
  have tt : M2 (q + 175) = T' := u0.1.2.2.2.2.2.2
  have RD : ∀ x i, 174 ≤ x → x < e1 + 174 → d_rd q R1 x i = R1 x i := fun x i a b => d_rd_ne (by omega)
  have fr0 : fR n (mf n M3) (M3 (q + 175)) (fun j => M3 (q + 174) j) (M3 (q + 174) 1) := by
    rw [x3 (q + 175) (by omega), x3 (q + 174) (by omega), tt, zz.1]
    have fr1 := fR_of hS b1 hc1 b2 hX
    have fr2 : fR n (mf n M3) T' F' z' := by
      obtain ⟨p1, p2, p3, p4, p5, p6⟩ := mf_c (f := n) (M := Mr)
      obtain ⟨s1, s2, s3, s4, s5, s6⟩ := mf_c (f := n) (M := M3)
      have e1 : ∀ (x : Nat) (i : Int), x ≠ 81 → mf n M3 x i = mf n Mr x i := fun x i a => by rw [mf_ne a, mf_ne a, g2 x a]
      exact fR_t fr1 ⟨⟨by omega, fun x i u v w => e1 x i (by omega)⟩, ⟨by omega, fun x i u v w => e1 x i (by omega)⟩, ⟨by omega, fun x i u v w => e1 x i (by omega)⟩, ⟨by omega, fun x i u v w => e1 x i (by omega)⟩, ⟨by omega, fun x i u v w => e1 x i (by omega)⟩, by omega, (fun i w => e1 118 i (by decide)), by omega⟩ (fun x hx => e1 x n (by omega)) (fun i u v => e1 87 i (by decide)) (fun x i hx u v => e1 x i (by omega))
    exact fR_F fr2 (fun j hj => u0.2 j hj)
  have nn := dNf_n hp b1 h5
  have nn3 : M3 88 n ≤ 4 ∧ M3 93 n ≤ 5 ∧ dNf M3 n := by
    unfold dNf at nn ⊢
    rw [g2 88 (by decide), g2 93 (by decide), g2 87 (by decide), g2 91 (by decide)]
    exact nn
  refine ⟨?_, ?_, de_rm r1, .inl (by rw [x3 0 (.inl rfl)]; exact k11), fun hN => nAl_1 hN hn1 (by rw [x3 0 (.inl rfl)]; exact k9) x2 nn3⟩
  · exact de_ivs (n := n) v1 x1 hn8 (by rw [x3 0 (.inl rfl)]; exact k9) g9 (by rw [x3 0 (.inl rfl)]; exact k11) (by rw [x3 0 (.inl rfl), m1, g3]) gz
  · exact de_fn f1 hn1 ⟨hn8.1, by omega⟩ hq x1 x2 (fun i _ => rfl) (by omega) (fun i => d_rd_ne (by decide)) RD (.inr ⟨by rw [x3 0 (.inl rfl)]; exact k9, by rw [x3 (q + 174) (by omega), zz.1]; exact zz.2, fr0⟩)
end

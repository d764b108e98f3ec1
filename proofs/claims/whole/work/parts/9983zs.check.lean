/-! CHECK: the law -/
section
variable {ρ : Nat → Option xk} {e sl d : Nat} {M : Nat → Int → Int} {R : Nat → Int → Option Nat} {eX : Nat → Nat × (Nat → Int32)} {Q : xK}
variable {fs : Nat} {t : Int}
/-- the code's side: what is there of function f -/
theorem ck_code {tr : Nat → c_t} {M1 M2 M3 : Nat → Int → Int} {ρ2 : Nat → Option xk} {e2 : Nat} {R2 : Nat → Int → Option Nat} {nf : Int → Int} {f : Nat} (h88 : 0 ≤ M 88 f) (h95 : 0 ≤ M 95 f) (hC : jC fs tr M 60 f M1 nf) (hD : oD 60 (M1 ((tr f).1 + 175)) (tr f).2.1 f ρ2 e2 M2 R2) (hH : oH 60 (M1 ((tr f).1 + 175)) (tr f).2.1) (h3 : M3 156 f = ((k_em M fs nf ((M 95 f).toNat + 1) (k_pw M f (M 93 f).toNat) (M 95 f) 0 ++ [(22, 0)]).length : Int)) (h4 : mL M3 (1200 * (f : Int)) 0 (k_em M fs nf ((M 95 f).toNat + 1) (k_pw M f (M 93 f).toNat) (M 95 f) 0 ++ [(22, 0)])) (e39 : M3 39 = M2 39) (eD : ∀ x, 174 ≤ x → M3 x = M2 x) : (∃ q : Nat, R2 38 f = some (q + 175) ∧ q < e2 ∧ ρ2 q = some (.inl (0, 1000)) ∧ M3 39 f = 2 * M3 156 f ∧ (0 ≤ M3 156 f ∧ M3 156 f ≤ 500) ∧ ∀ i, 0 ≤ i → i < M3 156 f → M3 (q + 174) (2 * i) = M3 157 (1200 * f + i) + M3 159 (1200 * f + i) ∧ M3 (q + 174) (2 * i + 1) = M3 158 (1200 * f + i) ∧ (M3 159 (1200 * f + i) = 0 ∧ M3 157 (1200 * f + i) ≠ 11 ∧ M3 157 (1200 * f + i) ≠ 13 ∨ M3 159 (1200 * f + i) = 1 ∧ (M3 157 (1200 * f + i) = 10 ∨ M3 157 (1200 * f + i) = 12))) ∧ ((k_em M fs nf ((M 95 f).toNat + 1) (k_pw M f (M 93 f).toNat) (M 95 f) 0 ++ [(22, 0)]).length : Int) ≤ 500 := by
  have ee := jC_pw h88 hC ((M 95 f).toNat + 1) (by omega) 0
  obtain ⟨c, ⟨d1, d2, d3⟩, d4, d5, d6, d7⟩ := hD
  obtain ⟨-, -, len, -, -, -⟩ := hH
  rw [ee] at d4 d5 len
  have l1 : ((k_em M fs nf ((M 95 f).toNat + 1) (k_pw M f (M 93 f).toNat) (M 95 f) 0 ++ [(22, 0)]).length : Int) = ((k_em M fs nf ((M 95 f).toNat + 1) (k_pw M f (M 93 f).toNat) (M 95 f) 0).length : Int) + 1 := by
    rw [List.length_append, List.length_cons, List.length_nil]
    omega
  rw [l1] at h3
  refine ⟨⟨c, d1, d2, d3, ?_, ?_, fun i i0 i1 => ?_⟩, by omega⟩
  · show M3 39 f = 2 * M3 156 f
    rw [e39, d5, h3]
  · show 0 ≤ M3 156 f ∧ M3 156 f ≤ 500
    rw [h3]
    omega
  · have i1 : i < M3 156 f := i1
    have := oC_mL d4 h4 i i0 (by rw [l1]; omega)
    rw [← eD (c + 174) (by omega)] at this
    exact this
theorem ck_class (hE : ∀ j, (eX j).1 ≤ 1000000) (hX : n_X eX) (ht : 0 ≤ t) (h : iv (ρ, e, M, R, sl)) (hP : oP (ρ, e, M, R, sl)) (hr : rm (t + 1) (ρ, e, M, R, sl)) : xm_call tb_P eX tb_K0 174 (d + 802) 163 [.inr (.inr (some 1))] (ρ, e, M, R, sl) (fun oo s2 => ∃ v, oo = .inl (some (.inl v)) ∧ cV2 eX t v s2) := by
  obtain ⟨⟨hf, ⟨ow, kH, ho⟩, hiR, hA⟩, -, hNa⟩ := hP
  dsimp only at kH ho hiR hA hNa
  have hp := h.2.2.2.1
  unfold iv_p at hp
  dsimp only at hp
  obtain ⟨-, p2, p3, p4⟩ := hp
  obtain ⟨fs, h9⟩ : ∃ fs : Nat, M 0 9 = fs := ⟨(M 0 9).toNat, by omega⟩
  have h8 : fs ≤ 8 := by omega
  have h10 : M 81 10 = fs := by rw [← h9]; exact p2.symm
  obtain ⟨c1, c2, c3⟩ := ck_fn hf h8 h9
  have hT := trS_wT hf (by omega) h9 ho
  have hF0 : ∀ g : Nat, g < fs → (trS M R g).2.1 1 ≤ 500 ∧ fR g (mf g M) (trS M R g).2.2 (trS M R g).2.1 ((trS M R g).2.1 1) := fun g hg => by
    obtain ⟨-, -, -, -, a5, a6⟩ := trS_of hf (by omega) (g := g) (by omega)
    exact ⟨a5.2, a6⟩
  have hOH : ∀ s, k_ch M fs (fun g => 2 * (M 95 g).toNat + 2) (k_s0 (M 103)) = .inr s → s.1 4 = 1 → ∀ M1 : Nat → Int → Int, (∀ g, g < fs → tM (trS M R g).2.2 (M1 ((trS M R g).1 + 175))) → (∀ g, g < fs → jC fs (trS M R) M 60 g M1 s.2.2.2) → ∀ g, g < fs → oH 60 (M1 ((trS M R g).1 + 175)) (trS M R g).2.1 := fun s hs h4 M1 q1 q2 g hg => by
    obtain ⟨v1, v2, t', w', v3, -, -⟩ := c3 g (by omega) (by omega)
    obtain ⟨z1, z2⟩ := hF0 g hg
    exact oH_of (by omega) z1 z2 (k_ch_vd hs g (by omega) (by omega) v1.1.1 v1.2.1 v3) (q1 g hg) (q2 g hg)
  have hlen : ∀ s, k_ch M fs (fun g => 2 * (M 95 g).toNat + 2) (k_s0 (M 103)) = .inr s → s.1 4 = 1 → ∀ M1 : Nat → Int → Int, (∀ g, g < fs → tM (trS M R g).2.2 (M1 ((trS M R g).1 + 175))) → (∀ g, g < fs → jC fs (trS M R) M 60 g M1 s.2.2.2) → ∀ g : Int, 0 ≤ g → g < fs → (k_em M fs s.2.2.2 ((M 95 g).toNat + 1) (k_pw M g (M 93 g).toNat) (M 95 g) 0).length ≤ 999 := fun s hs h4 M1 q1 q2 g g0 g1 => by
    obtain ⟨g, rfl⟩ : ∃ n : Nat, g = n := ⟨g.toNat, by omega⟩
    have o := (hOH s hs h4 M1 q1 q2 g (by omega)).2.2.1
    have v := c3 g (by omega) (by omega)
    rw [jC_pw v.1.1.1 (q2 g (by omega)) ((M 95 g).toNat + 1) (by have := v.2.1; omega) 0] at o
    omega
  refine w_163 (d := d) (t := t + 1) (fs := fs) (tr := trS M R) (M0 := M) (L := 60) (N := fun g => 2 * (M 95 g).toNat + 2) (nf := M 103) (ow := ow) hE hX h8 (Nat.le_refl _) c1 c2 kH hr (by omega) hiR.2 hT hA h9 (fun w a g hk => ?_) hOH (fun s hk s4 ρ1 e1 M1 R1 sl1 ow1 w1 w2 w3 w4 w5 => ?_) (fun w a g hk ρ1 e1 R1 sl1 ow1 M1 w1 w2 w3 w4 w5 w6 w7 w8 w9 w0 w11 w12 => ?_) (fun s hk s4 ρ1 e1 M1 R1 sl1 ow1 w1 w2 w3 w4 w5 w6 ρ2 e2 M2 R2 sl2 o1 o2 o3 o4 => ?_)
  · have := k_ch_neg (fun g g0 g1 => ?_) hk
    · omega
    · obtain ⟨v1, v2, t', w', v3, -, -⟩ := c3 g g0 g1
      exact ⟨_, t', w', by omega, v3⟩
  · -- not accepted
    have eT : ∀ x, 81 ≤ x → x < 174 → x_up (x_up M1 0 11 1) 0 10 (-1) x = M x := fun x a b => by
      rw [x_up_ne (by omega), x_up_ne (by omega)]
      exact jG_K w3 (by unfold ckK; omega)
    refine ⟨0, rfl, fun d => ck_ref (d := d) hE hf h8 h9 h10 eT (fun s' hs' h4' => ?_) (fun s' hs' h4' M' a1 a2 a3 a4 a5 a6 a7 => ?_) (fun c a g hs' => ?_) (fun s' hs' h4' => ?_)⟩
    · rw [hk] at hs'; injection hs' with hs'; subst hs'; omega
    · rw [hk] at hs'
      injection hs' with hs'
      subst hs'
      have m0 : M' 0 = x_up (x_up M1 0 11 1) 0 10 (-1) 0 := a6 0 (by decide) (by decide) (by decide)
      have m8 : ∀ x, x ≠ 0 → x ≠ 81 → x ≠ 103 → (x < 128 ∨ 155 < x) → M' x = M1 x := fun x y0 y1 y2 y3 => by rw [a6 x y1 y2 y3, x_up_ne y0, x_up_ne y0]
      have m11 : M' 0 11 = 1 := by rw [m0, x_up_o (by decide), x_up_s rfl]
      have m14 : M' 8 14 = 0 := by rw [m8 8 (by decide) (by decide) (by decide) (by decide)]; exact w5
      obtain ⟨⟨j1, j2, j3⟩, j4, ⟨j5, j6, j7, j8⟩, ⟨j9, j10⟩, j11, j12, j13⟩ := w2
      obtain ⟨r1, r2⟩ := ck_end (sl1 := sl1) (ow := ow) (Tt := fun g => M1 ((trS M R g).1 + 175)) h hf h8 h9 (ckS_of (M1 := M1) (M2 := x_up (x_up M1 0 11 1) 0 10 (-1)) w3 (fun x _ y _ _ _ _ => by rw [x_up_ne y, x_up_ne y]) (by rw [x_up_o (by decide), x_up_o (by decide)]) (fun x y1 y2 y3 y4 => a6 x y1 y4 (by omega)) (fun j hj => a7 j (by unfold cJ; omega) (by omega) (by omega) (by omega))) (by rw [a2, m0, x_up_s rfl]) (ck_ivc j5 j9 j10 w4 (by rw [w5, s4]) (m8 8 (by decide) (by decide) (by decide) (by decide)) (m8 9 (by decide) (by decide) (by decide) (by decide)) (m8 15 (by decide) (by decide) (by decide) (by decide)) m11 a1 a3 a4 (by rw [a5, s4])) (fun _ z => by omega) ho w1 j1 hXt_rf (fun k => jG_R w3 (by decide) (by decide) (by decide) (by decide) (by decide) (by decide)) (iv_r_w hiR (fun i => jG_R w3 (by decide) (by decide) (by decide) (by decide) (by decide) (by decide)) j11) (oA_go hA w1.1 w1.2.1 (fun i => jG_R w3 (by decide) (by decide) (by decide) (by decide) (by decide) (by decide))) (fun g hg => by rw [m8 _ (by omega) (by omega) (by omega) (by omega)]; exact (j13.1 g hg).2.1) (fun g hg => ⟨m8 _ (by omega) (by omega) (by omega) (by omega), (j13.1 g hg).2.2⟩) (fun _ z => by omega) hNa
      exact ⟨rfl, r1, r2, rm_les j2⟩
    · rw [hk] at hs'; cases hs'
    · rw [hk] at hs'; injection hs' with hs'; subst hs'; omega
  · -- a fault
    have eT : ∀ x, 81 ≤ x → x < 174 → x_up (x_up M1 0 11 1) 0 10 a x = M x := fun x y z => by
      rw [x_up_ne (by omega), x_up_ne (by omega)]
      exact jG_K w5 (by unfold ckK; omega)
    refine ⟨w, rfl, fun d => ck_ref (d := d) hE hf h8 h9 h10 eT (fun s' hs' => ?_) (fun s' hs' => ?_) (fun c a' g' hs' M' cx => ?_) (fun s' hs' => ?_)⟩
    · rw [hk] at hs'; cases hs'
    · rw [hk] at hs'; cases hs'
    · rw [hk] at hs'
      injection hs' with hs'
      injection hs' with e1' hs'
      injection hs' with e2' e3'
      subst e1' e2' e3'
      have cx' := cx
      obtain ⟨x1, x2, x3, x4, x5, x6⟩ := cx'
      have m0 : M' 0 = x_up (x_up M1 0 11 1) 0 10 a 0 := by rw [x5 0 (by decide) (by decide) (by decide), x_up_ne (by decide)]
      have m8 : ∀ x, x ≠ 0 → x ≠ 81 → x ≠ 103 → (x < 128 ∨ 155 < x) → M' x = M1 x := fun x y0 y1 y2 y3 => by rw [x5 x y1 y2 y3, x_up_ne y1, x_up_ne y0, x_up_ne y0]
      have m11 : M' 0 11 = 1 := by rw [m0, x_up_o (by decide), x_up_s rfl]
      have m14 : M' 8 14 = 0 := by rw [m8 8 (by decide) (by decide) (by decide) (by decide)]; exact w12
      have z7 : ∀ x i, x < 174 → x_zR R1 (e1 + 174) x i = R1 x i := fun x i hx => x_zR_p (by omega)
      obtain ⟨r1, r2⟩ := ck_end (sl1 := sl1 + 6) (ow := ow) (Tt := fun g => M1 ((trS M R g).1 + 175)) h hf h8 h9 (ckS_of (M1 := M1) (M2 := x_up (x_up M1 0 11 1) 0 10 a) w5 (fun x _ y _ _ _ _ => by rw [x_up_ne y, x_up_ne y]) (by rw [x_up_o (by decide), x_up_o (by decide)]) (fun x y1 y2 y3 y4 => by rw [x5 x y1 y4 (by omega), x_up_ne y1]) (fun j hj => by rw [x6 j (by unfold cJ; omega) (by omega) (by omega), x_up_o (by omega)])) (by rw [x2, m0, x_up_s rfl]) (ck_ivx w6 w7 w8 w9 w0 w12 (m8 8 (by decide) (by decide) (by decide) (by decide)) (m8 9 (by decide) (by decide) (by decide) (by decide)) m11 cx) (fun _ z => by omega) ho w1 w2 hXt_ex (fun k => by rw [z7 7 k (by decide)]; exact jG_R w5 (by decide) (by decide) (by decide) (by decide) (by decide) (by decide)) (iv_r_w hiR (fun i => by rw [z7 56 i (by decide)]; exact jG_R w5 (by decide) (by decide) (by decide) (by decide) (by decide) (by decide)) (by unfold w10 at w4 ⊢; rw [z7 10 0 (by decide), z7 10 1 (by decide)]; exact w4)) (oA_go hA (fun i hi => by unfold x_new; rw [if_neg (by have := w1.2.1; omega)]; exact w1.1 i hi) (by have := w1.2.1; omega) (fun i => by rw [z7 38 i (by decide)]; exact jG_R w5 (by decide) (by decide) (by decide) (by decide) (by decide) (by decide))) (fun g hg => by rw [m8 _ (by omega) (by omega) (by omega) (by omega)]; exact (w3.1 g hg).2.1) (fun g hg => ⟨m8 _ (by omega) (by omega) (by omega) (by omega), (w3.1 g hg).2.2⟩) (fun _ z => by omega) hNa
      exact ⟨rfl, r1, r2, rm_thr (w1.2.2.2.2 (t + 1) M M1 hr)⟩
    · rw [hk] at hs'; cases hs'
  · -- accepted
    obtain ⟨⟨j1, j2, j3⟩, j4, ⟨j5, j6, j7, j8⟩, ⟨j9, j10⟩, j11, j12, j13⟩ := w2
    obtain ⟨f1, f2, f3, f4, f5⟩ := o1
    have eC : ∀ x, x < 174 → x ≠ 0 → x ≠ 37 → x ≠ 39 → x ≠ 40 → x ≠ 41 → M2 x = M1 x := fun x y y0 y1 y2 y3 y4 => by rw [f5 x (by omega) y1 y2 y3 y4 (fun c hc => by omega), x_up_ne y0, x_up_ne y0]
    have e0 : M2 0 = x_up (x_up M1 0 11 1) 0 10 (-1) 0 := f5 0 (by omega) (by decide) (by decide) (by decide) (by decide) (fun c hc => by omega)
    have eT : ∀ x, 81 ≤ x → x < 174 → M2 x = M x := fun x a b => by rw [eC x b (by omega) (by omega) (by omega) (by omega) (by omega)]; exact jG_K w3 (by unfold ckK; omega)
    have tMs : ∀ g, g < fs → tM (trS M R g).2.2 (M1 ((trS M R g).1 + 175)) := fun g hg => (j13.1 g hg).2.2
    refine ⟨1, rfl, fun d => ck_ref (d := d) hE hf h8 h9 h10 eT (fun s' hs' h4' => ?_) (fun s' hs' h4' => ?_) (fun c a g hs' => ?_) (fun s' hs' h4' M' a1 a2 a3 a4 a5 a6 a7 M3 z3 => ?_)⟩
    · rw [hk] at hs'
      injection hs' with hs'
      subst hs'
      exact hlen s hk s4 M1 tMs w6
    · rw [hk] at hs'; injection hs' with hs'; subst hs'; omega
    · rw [hk] at hs'; cases hs'
    · rw [hk] at hs'
      injection hs' with hs'
      subst hs'
      obtain ⟨z4, z5, z6⟩ := z3
      have m3 : ∀ x, x ≠ 81 → x ≠ 103 → (x < 128 ∨ 160 < x) → M3 x = M2 x := fun x y1 y2 y3 => by rw [z4 x y1 (by omega), a6 x y1 y2 (by omega)]
      have m0 : M3 0 = x_up (x_up M1 0 11 1) 0 10 (-1) 0 := by rw [m3 0 (by decide) (by decide) (by decide), e0]
      have m8 : ∀ x, x < 37 → x ≠ 0 → M3 x = M1 x := fun x y0 y1 => by rw [m3 x (by omega) (by omega) (by omega), eC x (by omega) y1 (by omega) (by omega) (by omega) (by omega)]
      have m11 : M3 0 11 = 1 := by rw [m0, x_up_o (by decide), x_up_s rfl]
      have q3 : qG M3 s := by
        obtain ⟨⟨q1, q2⟩, ⟨q3, q4⟩, ⟨q5, q6⟩, q7⟩ := a1
        refine ⟨⟨by rw [z5 62 (by decide) (by decide) (by decide)]; exact q1, q2⟩, ⟨by rw [z5 64 (by decide) (by decide) (by decide)]; exact q3, q4⟩, ⟨by rw [z5 65 (by decide) (by decide) (by decide)]; exact q5, q6⟩, fun k k0 k1 => ?_⟩
        rw [z4 128 (by decide) (by decide), z4 129 (by decide) (by decide), z4 130 (by decide) (by decide), z4 131 (by decide) (by decide), z4 132 (by decide) (by decide), z4 133 (by decide) (by decide)]
        exact q7 k k0 k1
      have cod : ∀ f : Nat, f < fs → _ := fun f hf' => ck_code (M3 := M3) (M2 := M2) (c3 f (by omega) (by omega)).1.1.1 (c3 f (by omega) (by omega)).2.1 (w6 f hf') (o4 f hf') (hOH s hk s4 M1 tMs w6 f hf') (z6 f (by omega) (by omega)).1 (z6 f (by omega) (by omega)).2.2 (m3 39 (by decide) (by decide) (by decide)) (fun x hx => m3 x (by omega) (by omega) (by omega))
      have r27 : ∀ x i, x < 174 → x ≠ 37 → x ≠ 38 → R2 x i = R1 x i := fun x i y1 y2 y3 => f3 x i (by omega) y2 y3
      have wac : wAc M3 := by
        intro _ _
        obtain ⟨M0, a0, b0⟩ : ∃ M0 : Nat → Int → Int, M0 103 = M3 103 ∧ ∀ x, x ≠ 103 → M0 x = M x := ⟨fun x => if x = 103 then M3 103 else M x, if_pos rfl, fun x hx => if_neg hx⟩
        have eU : ∀ x, 86 ≤ x → x ≤ 118 → x ≠ 103 → M0 x = M x := fun x _ _ y => b0 x y
        have eL : ∀ f, lAc M0 fs s.2.2.2 f = k_em M fs s.2.2.2 ((M 95 f).toNat + 1) (k_pw M f (M 93 f).toNat) (M 95 f) 0 ++ [(22, 0)] := fun f => by
          unfold lAc
          rw [k_em_U eU, k_pw_T (b0 91 (by decide)), b0 95 (by decide), b0 93 (by decide)]
        refine ⟨M0, fs, M 103, s, ?_, dY_of (fun x j y1 y2 => ?_), ?_, s4, fun f f0 f1 => ?_⟩
        · rw [m0, x_up_o (by decide), x_up_o (by decide), jG_K w3 (by unfold ckK; omega)]
          exact h9
        · by_cases hx : x = 103
          · rw [hx, a0]
          · rw [b0 x hx, m3 x (by omega) hx (by omega), eT x (by omega) (by omega)]
        · rw [k_ch_T eU, b0 95 (by decide)]
          exact hk
        · rw [eL f]
          obtain ⟨f, rfl⟩ : ∃ n : Nat, f = n := ⟨f.toNat, by omega⟩
          obtain ⟨y1, y2⟩ := cod f (by omega)
          obtain ⟨v1, v2, v3⟩ := z6 f f0 f1
          obtain ⟨c, -, -, -, d6, d7⟩ := o4 f (by omega)
          obtain ⟨-, fr⟩ := hF0 f (by omega)
          obtain ⟨N, L, P, x, -, -, -, ⟨b1, b2, -⟩, ⟨t1, t2, -⟩, -, -⟩ := fr
          rw [mf_ne (by decide)] at b2
          obtain ⟨-, t3, -⟩ := t2
          rw [mf_ne (by decide), mf_ne (by decide)] at t3
          refine ⟨⟨v1, by omega⟩, v3, ?_, ?_⟩
          · rw [m3 40 (by decide) (by decide) (by decide), d6, b1]
            rw [b0 93 (by decide)]
            exact b2.symm
          · rw [m3 41 (by decide) (by decide) (by decide), d7]
            rw [b0 113 (by decide), b0 94 (by decide)]
            have ts : M1 ((trS M R f).1 + 175) ((trS M R f).2.1 9 * 9 + 0) = (trS M R f).2.2 ((trS M R f).2.1 9 * 9 + 0) := tM_i (tMs f (by omega)) _ 0 (by omega) (by omega) (by omega) (by omega)
            rw [ts, t3]
            rcases t1.2 with y | y | y | y
            · rw [y.1, y.2, if_neg (by decide), if_neg (by decide)]
            · rw [y.1, y.2.1, if_neg (by decide), if_neg (by decide)]
            · rw [y.1, y.2.1, if_pos rfl, if_pos rfl]
            · rw [y.1, y.2.1, if_neg (by decide), if_neg (by decide)]
      have hik : iv_k ρ2 e2 M3 R2 := by
        intro _ _ f f0 f1
        have m9 : M3 0 9 = fs := by
          rw [m0, x_up_o (by decide), x_up_o (by decide), jG_K w3 (by unfold ckK; omega)]
          exact h9
        obtain ⟨f, rfl⟩ : ∃ n : Nat, f = n := ⟨f.toNat, by omega⟩
        exact ⟨⟨_, (o2.1 f (by omega)).1⟩, (cod f (by omega)).1⟩
      obtain ⟨r1, r2⟩ := ck_end (sl1 := sl2) (ow := ow) (Tt := fun g => M1 ((trS M R g).1 + 175)) h hf h8 h9 (ckS_of (M1 := M1) (M2 := M2) w3 eC (by rw [e0, x_up_o (by decide), x_up_o (by decide)]) (fun x y1 y2 y3 y4 => m3 x y1 y4 (by omega)) (fun j hj => by rw [z5 j (by omega) (by omega) (by omega), a7 j (by unfold cJ; omega) (by omega) (by omega) (by omega)])) (by rw [z5 7 (by decide) (by decide) (by decide), a2, m0, x_up_s rfl]) (ck_ivc j5 j9 j10 w4 (by rw [w5, s4]) (m8 8 (by decide) (by decide)) (m8 9 (by decide) (by decide)) (m8 15 (by decide) (by decide)) m11 q3 (by rw [z5 66 (by decide) (by decide) (by decide)]; exact a3) (by rw [z5 63 (by decide) (by decide) (by decide)]; exact a4) (by rw [z5 67 (by decide) (by decide) (by decide), a5, s4])) hik ho w1 j1 ⟨f1, f2, fun x i hx => f3 x i (by omega) (by omega) (by omega)⟩ (fun k => by rw [r27 7 k (by decide) (by decide) (by decide)]; exact jG_R w3 (by decide) (by decide) (by decide) (by decide) (by decide) (by decide)) (iv_r_w hiR (fun i => by rw [r27 56 i (by decide) (by decide) (by decide)]; exact jG_R w3 (by decide) (by decide) (by decide) (by decide) (by decide) (by decide)) (by unfold w10 at j11 ⊢; rw [r27 10 0 (by decide) (by decide) (by decide), r27 10 1 (by decide) (by decide) (by decide)]; exact j11)) o2.2 (fun g hg => by rw [m3 _ (by omega) (by omega) (by omega)]; exact (o2.1 g hg).2.2.2.1) (fun g hg => ⟨by rw [m3 _ (by omega) (by omega) (by omega)]; exact (o2.1 g hg).2.2.2.2, tMs g hg⟩) wac hNa
      exact ⟨rfl, r1, r2, rm_les o3⟩
set_option linter.unusedSimpArgs false in
set_option maxRecDepth 100000 in
set_option maxHeartbeats 1200000 in
theorem la_check (hE : ∀ j, (eX j).1 ≤ 1000000) (hX : n_X eX) {i t : Int} (h0 : 0 ≤ i) (h6 : i + 6 ≤ ((eX 0).1 : Int)) (ht : 0 ≤ t) (h : iv (ρ, e, M, R, sl)) (hP : oP (ρ, e, M, R, sl)) (hr : rm (t + 1) (ρ, e, M, R, sl)) (hK : ∀ ρ1 e1 M1 R1 sl, iv (ρ1, e1, M1, R1, sl) → oP (ρ1, e1, M1, R1, sl) → rm t (ρ1, e1, M1, R1, sl) → xm_J tb_P eX tb_K0 174 (d + 802) 0 Q 1194 [(0, .inr (.inr (some 0))), (1, .inr (.inr (some 1))), (2, .inr (.inr (some 82))), (3, .inr (.inr (some 174))), (4, .inl i)] [] (ρ1, e1, M1, R1, sl)) : xm_J tb_P eX tb_K0 174 (d + 802) 0 Q 279 [(0, .inr (.inr (some 0))), (1, .inr (.inr (some 1))), (2, .inr (.inr (some 82))), (3, .inr (.inr (some 174))), (4, .inl i)] [] (ρ, e, M, R, sl) := by
  have hE0 := hE 0
  have dc : xm_call tb_P eX tb_K0 174 (d + 802) 163 [.inr (.inr (some 1))] (ρ, e, M, R, sl) (fun oo s2 => ∃ v, oo = .inl (some (.inl v)) ∧ cV2 eX t v s2) := ck_class (d := d) hE hX ht h hP hr
  refine xm_on hE (fun k pc => if Nat.beq k 0 && Nat.beq pc 1194 then some [0, 1, 2, 3, 4] else none) (fun _ => false) (fun Ff C hF hC => ?_)
  (conv => whnf)
  refine hC _ _ _ _ _ (xm_call_mono (Nat.le_refl _) (fun oo s2 hq1 => ?_) dc)
  obtain ⟨v, rfl, hv⟩ := hq1
  obtain ⟨ρ2, e2, M2, R2, sl2⟩ := s2
  have hv1 : xm_call tb_P eX tb_K0 174 (d + 802) 61 [.inr (.inr (some 82))] (ρ2, e2, M2, R2, sl2) (fun oo s' => oo = .inl (some (.inl v)) ∧ iv s' ∧ oP s' ∧ rm t s') := hv (d + 779)
  (conv => whnf)
  refine hC _ _ _ _ _ (xm_call_mono (Nat.le_refl _) (fun oo s3 hq2 => ?_) hv1)
  obtain ⟨rfl, w1, w2, w3⟩ := hq2
  obtain ⟨ρ3, e3, M3, R3, sl3⟩ := s3
  have fin := hK ρ3 e3 M3 R3 sl3 w1 w2 w3
  (conv => whnf)
  repeat (first | (refine br_t (by first | omega | (simp (disch := omega) only [w32_id, w64_id, x_up_p, x_up_s, x_up_o, x_fill_p, x_fill_i, x_fill_o, x_cpy_p, x_cpy_i, x_cpy_o, x_upR_p, x_upR_s, x_upR_o, x_zM_p, x_zR_p, x_set_p, x_set_s, tb_CM, tb_SM, xm_cats, xm_cat, List.length_cons, List.length_nil, x_cmp_ge, x_cmp_le, x_cmp_gt, x_cmp_lt, x_cmp_eq, not_true_eq_false, not_false_eq_true, true_and, and_true, Int.add_zero, Int.zero_add, Int.cast_ofNat_Int, Int.sub_zero] <;> omega) | (simp (disch := omega) only [w32_id, w64_id, x_up_p, x_up_s, x_up_o, x_fill_p, x_fill_i, x_fill_o, x_cpy_p, x_cpy_i, x_cpy_o, x_upR_p, x_upR_s, x_upR_o, x_zM_p, x_zR_p, x_set_p, x_set_s, tb_CM, tb_SM, xm_cats, xm_cat, List.length_cons, List.length_nil, x_cmp_ge, x_cmp_le, x_cmp_gt, x_cmp_lt, x_cmp_eq, not_true_eq_false, not_false_eq_true, true_and, and_true, Int.add_zero, Int.zero_add, Int.cast_ofNat_Int, Int.sub_zero]; done) | fail) ?_; (conv => whnf)) | (refine br_f (by first | omega | (simp (disch := omega) only [w32_id, w64_id, x_up_p, x_up_s, x_up_o, x_fill_p, x_fill_i, x_fill_o, x_cpy_p, x_cpy_i, x_cpy_o, x_upR_p, x_upR_s, x_upR_o, x_zM_p, x_zR_p, x_set_p, x_set_s, tb_CM, tb_SM, xm_cats, xm_cat, List.length_cons, List.length_nil, x_cmp_ge, x_cmp_le, x_cmp_gt, x_cmp_lt, x_cmp_eq, not_true_eq_false, not_false_eq_true, true_and, and_true, Int.add_zero, Int.zero_add, Int.cast_ofNat_Int, Int.sub_zero] <;> omega) | (simp (disch := omega) only [w32_id, w64_id, x_up_p, x_up_s, x_up_o, x_fill_p, x_fill_i, x_fill_o, x_cpy_p, x_cpy_i, x_cpy_o, x_upR_p, x_upR_s, x_upR_o, x_zM_p, x_zR_p, x_set_p, x_set_s, tb_CM, tb_SM, xm_cats, xm_cat, List.length_cons, List.length_nil, x_cmp_ge, x_cmp_le, x_cmp_gt, x_cmp_lt, x_cmp_eq, not_true_eq_false, not_false_eq_true, true_and, and_true, Int.add_zero, Int.zero_add, Int.cast_ofNat_Int, Int.sub_zero]; done) | fail) ?_; (conv => whnf)) | (refine sw_in (by first | omega | (simp (disch := omega) only [w32_id, w64_id, x_up_p, x_up_s, x_up_o, x_fill_p, x_fill_i, x_fill_o, x_cpy_p, x_cpy_i, x_cpy_o, x_upR_p, x_upR_s, x_upR_o, x_zM_p, x_zR_p, x_set_p, x_set_s, tb_CM, tb_SM, xm_cats, xm_cat, List.length_cons, List.length_nil, x_cmp_ge, x_cmp_le, x_cmp_gt, x_cmp_lt, x_cmp_eq, not_true_eq_false, not_false_eq_true, true_and, and_true, Int.add_zero, Int.zero_add, Int.cast_ofNat_Int, Int.sub_zero] <;> omega) | (simp (disch := omega) only [w32_id, w64_id, x_up_p, x_up_s, x_up_o, x_fill_p, x_fill_i, x_fill_o, x_cpy_p, x_cpy_i, x_cpy_o, x_upR_p, x_upR_s, x_upR_o, x_zM_p, x_zR_p, x_set_p, x_set_s, tb_CM, tb_SM, xm_cats, xm_cat, List.length_cons, List.length_nil, x_cmp_ge, x_cmp_le, x_cmp_gt, x_cmp_lt, x_cmp_eq, not_true_eq_false, not_false_eq_true, true_and, and_true, Int.add_zero, Int.zero_add, Int.cast_ofNat_Int, Int.sub_zero]; done) | fail) ?_; (conv => whnf)) | (refine sw_hit (by first | omega | (simp (disch := omega) only [w32_id, w64_id, x_up_p, x_up_s, x_up_o, x_fill_p, x_fill_i, x_fill_o, x_cpy_p, x_cpy_i, x_cpy_o, x_upR_p, x_upR_s, x_upR_o, x_zM_p, x_zR_p, x_set_p, x_set_s, tb_CM, tb_SM, xm_cats, xm_cat, List.length_cons, List.length_nil, x_cmp_ge, x_cmp_le, x_cmp_gt, x_cmp_lt, x_cmp_eq, not_true_eq_false, not_false_eq_true, true_and, and_true, Int.add_zero, Int.zero_add, Int.cast_ofNat_Int, Int.sub_zero] <;> omega) | (simp (disch := omega) only [w32_id, w64_id, x_up_p, x_up_s, x_up_o, x_fill_p, x_fill_i, x_fill_o, x_cpy_p, x_cpy_i, x_cpy_o, x_upR_p, x_upR_s, x_upR_o, x_zM_p, x_zR_p, x_set_p, x_set_s, tb_CM, tb_SM, xm_cats, xm_cat, List.length_cons, List.length_nil, x_cmp_ge, x_cmp_le, x_cmp_gt, x_cmp_lt, x_cmp_eq, not_true_eq_false, not_false_eq_true, true_and, and_true, Int.add_zero, Int.zero_add, Int.cast_ofNat_Int, Int.sub_zero]; done) | fail) ?_ (sw_vac (by first | omega | (simp (disch := omega) only [w32_id, w64_id, x_up_p, x_up_s, x_up_o, x_fill_p, x_fill_i, x_fill_o, x_cpy_p, x_cpy_i, x_cpy_o, x_upR_p, x_upR_s, x_upR_o, x_zM_p, x_zR_p, x_set_p, x_set_s, tb_CM, tb_SM, xm_cats, xm_cat, List.length_cons, List.length_nil, x_cmp_ge, x_cmp_le, x_cmp_gt, x_cmp_lt, x_cmp_eq, not_true_eq_false, not_false_eq_true, true_and, and_true, Int.add_zero, Int.zero_add, Int.cast_ofNat_Int, Int.sub_zero] <;> omega) | (simp (disch := omega) only [w32_id, w64_id, x_up_p, x_up_s, x_up_o, x_fill_p, x_fill_i, x_fill_o, x_cpy_p, x_cpy_i, x_cpy_o, x_upR_p, x_upR_s, x_upR_o, x_zM_p, x_zR_p, x_set_p, x_set_s, tb_CM, tb_SM, xm_cats, xm_cat, List.length_cons, List.length_nil, x_cmp_ge, x_cmp_le, x_cmp_gt, x_cmp_lt, x_cmp_eq, not_true_eq_false, not_false_eq_true, true_and, and_true, Int.add_zero, Int.zero_add, Int.cast_ofNat_Int, Int.sub_zero]; done) | fail)); (conv => whnf)) | (refine sw_next (by first | omega | (simp (disch := omega) only [w32_id, w64_id, x_up_p, x_up_s, x_up_o, x_fill_p, x_fill_i, x_fill_o, x_cpy_p, x_cpy_i, x_cpy_o, x_upR_p, x_upR_s, x_upR_o, x_zM_p, x_zR_p, x_set_p, x_set_s, tb_CM, tb_SM, xm_cats, xm_cat, List.length_cons, List.length_nil, x_cmp_ge, x_cmp_le, x_cmp_gt, x_cmp_lt, x_cmp_eq, not_true_eq_false, not_false_eq_true, true_and, and_true, Int.add_zero, Int.zero_add, Int.cast_ofNat_Int, Int.sub_zero] <;> omega) | (simp (disch := omega) only [w32_id, w64_id, x_up_p, x_up_s, x_up_o, x_fill_p, x_fill_i, x_fill_o, x_cpy_p, x_cpy_i, x_cpy_o, x_upR_p, x_upR_s, x_upR_o, x_zM_p, x_zR_p, x_set_p, x_set_s, tb_CM, tb_SM, xm_cats, xm_cat, List.length_cons, List.length_nil, x_cmp_ge, x_cmp_le, x_cmp_gt, x_cmp_lt, x_cmp_eq, not_true_eq_false, not_false_eq_true, true_and, and_true, Int.add_zero, Int.zero_add, Int.cast_ofNat_Int, Int.sub_zero]; done) | fail) ?_; (conv => whnf)) | (refine sw_def (by first | omega | (simp (disch := omega) only [w32_id, w64_id, x_up_p, x_up_s, x_up_o, x_fill_p, x_fill_i, x_fill_o, x_cpy_p, x_cpy_i, x_cpy_o, x_upR_p, x_upR_s, x_upR_o, x_zM_p, x_zR_p, x_set_p, x_set_s, tb_CM, tb_SM, xm_cats, xm_cat, List.length_cons, List.length_nil, x_cmp_ge, x_cmp_le, x_cmp_gt, x_cmp_lt, x_cmp_eq, not_true_eq_false, not_false_eq_true, true_and, and_true, Int.add_zero, Int.zero_add, Int.cast_ofNat_Int, Int.sub_zero] <;> omega) | (simp (disch := omega) only [w32_id, w64_id, x_up_p, x_up_s, x_up_o, x_fill_p, x_fill_i, x_fill_o, x_cpy_p, x_cpy_i, x_cpy_o, x_upR_p, x_upR_s, x_upR_o, x_zM_p, x_zR_p, x_set_p, x_set_s, tb_CM, tb_SM, xm_cats, xm_cat, List.length_cons, List.length_nil, x_cmp_ge, x_cmp_le, x_cmp_gt, x_cmp_lt, x_cmp_eq, not_true_eq_false, not_false_eq_true, true_and, and_true, Int.add_zero, Int.zero_add, Int.cast_ofNat_Int, Int.sub_zero]; done) | fail) ?_; (conv => whnf)) | (refine And.intro (by first | omega | (simp (disch := omega) only [w32_id, w64_id, x_up_p, x_up_s, x_up_o, x_fill_p, x_fill_i, x_fill_o, x_cpy_p, x_cpy_i, x_cpy_o, x_upR_p, x_upR_s, x_upR_o, x_zM_p, x_zR_p, x_set_p, x_set_s, tb_CM, tb_SM, xm_cats, xm_cat, List.length_cons, List.length_nil, x_cmp_ge, x_cmp_le, x_cmp_gt, x_cmp_lt, x_cmp_eq, not_true_eq_false, not_false_eq_true, true_and, and_true, Int.add_zero, Int.zero_add, Int.cast_ofNat_Int, Int.sub_zero] <;> omega) | (simp (disch := omega) only [w32_id, w64_id, x_up_p, x_up_s, x_up_o, x_fill_p, x_fill_i, x_fill_o, x_cpy_p, x_cpy_i, x_cpy_o, x_upR_p, x_upR_s, x_upR_o, x_zM_p, x_zR_p, x_set_p, x_set_s, tb_CM, tb_SM, xm_cats, xm_cat, List.length_cons, List.length_nil, x_cmp_ge, x_cmp_le, x_cmp_gt, x_cmp_lt, x_cmp_eq, not_true_eq_false, not_false_eq_true, true_and, and_true, Int.add_zero, Int.zero_add, Int.cast_ofNat_Int, Int.sub_zero]; done) | fail) ?_; (conv => whnf)))
  exact hF _ _ _ _ _ _ _ fin
end

/-! RUNS AS IT SHOULD: numbers, names, lengths, one part -/
section
variable {M : Nat → Int → Int} {fs how : Int} {cd : Int → Int → Option (Int × Int)} {pn : Int → Int} {Z : m_T → Prop} {nf : Int → Int} {k L m n : Nat} {w : Option k_h} {r p : Int} {E : k_E} {s : k_s} {y : k_v} {D : Int → Prop} {c f h : Int} {σ : Int → Int} {Hd : Int → Prop} {S : m_T}
theorem sd_0 (h96 : M 96 r = 0) (hA : mAs M fs how cd nf (L + 1) m n none r p E s y D f) (hD : mDy M σ Hd S c f p h E s) (K : ∀ k', k' ≤ k → ∀ S', pW c f (p + (k_em M fs.toNat nf m (eL (M 88 f) E) r p).length) h (16 * (c - 1) + (E.length - M 88 f)) (s.1 0) σ Hd S y.1 (pVal none y) S' → m_G cd pn Z k' S') : m_G cd pn Z k S := by
  obtain ⟨⟨⟨t, wv, hv⟩, hm, hu⟩, ⟨hk, ha⟩, hnf, ⟨z1, z2, z3, z4, z5, z6⟩, hC, hT⟩ := hA
  obtain ⟨m, rfl⟩ : ∃ m', m = m' + 1 := ⟨m - 1, by omega⟩
  cases n with
  | zero => cases hk
  | succ n =>
    rw [k_ck_n0 h96] at hk
    cases hk
    rw [k_em_0 h96] at hC K
    obtain ⟨c1, -⟩ := hC
    try dsimp only at c1
    rw [m_ad_o (by decide) (by decide)] at c1
    exact gd_0 hD.2.2.2 c1 (fun k' hk' S' a1 a2 a3 a4 => K k' hk' S' ⟨σ, Hd, a1, mK_Q a2 a3, hG_rf a2.2.2.2.1, hI_q hD.2.2.1 a2.2.2.2.1 a2.2.2.2.2, fun _ _ _ => rfl, hD.1, ⟨(fun q => by cases q), fun _ => by rw [a4, u_v_n]⟩⟩)
theorem sd_1 (h96 : M 96 r = 1) (hA : mAs M fs how cd nf (L + 1) m n none r p E s y D f) (hD : mDy M σ Hd S c f p h E s) (K : ∀ k', k' ≤ k → ∀ S', pW c f (p + (k_em M fs.toNat nf m (eL (M 88 f) E) r p).length) h (16 * (c - 1) + (E.length - M 88 f)) (s.1 0) σ Hd S y.1 (pVal none y) S' → m_G cd pn Z k' S') : m_G cd pn Z k S := by
  obtain ⟨⟨⟨t, wv, hv⟩, hm, hu⟩, ⟨hk, ha⟩, hnf, ⟨z1, z2, z3, z4, z5, z6⟩, hC, hT⟩ := hA
  obtain ⟨m, rfl⟩ : ∃ m', m = m' + 1 := ⟨m - 1, by omega⟩
  cases n with
  | zero => cases hk
  | succ n =>
    rw [k_ck_n1 h96] at hk
    split at hk
    · cases hk
    · rename_i x hx
      cases hk
      rw [k_em_1 h96] at hC K
      obtain ⟨c1, -⟩ := hC
      try dsimp only at c1
      rw [m_ad_o (by decide) (by decide)] at c1
      obtain ⟨e1, e2⟩ := eO_fl z4 hD.2.1 z3 hx
      refine gd_1 hD.2.2.2 c1 (by omega) e2.2 (fun k' hk' S' a1 a2 a3 a4 => K k' hk' S' ⟨σ, Hd, a1, mK_Q a2 a3, hG_rf a2.2.2.2.1, hI_q hD.2.2.1 a2.2.2.2.1 a2.2.2.2.2, fun _ _ _ => rfl, hD.1, ?_⟩)
      show vO Hd S' (x.1 - 1) (S' 0 h) (u_v σ x.2)
      rw [a4]
      exact vO_go e2.1 (hG_rf a2.2.2.2.1)
/-- a row's beginning lies in the cells -/
theorem hI_r {v : Int} (hI' : hI Hd S) (hv : Hd v) : 0 ≤ v ∧ v < S 6 2 ∧ 0 ≤ S 4 v ∧ v + 1 + S 4 v ≤ S 6 2 := by
  have a := hI'.2.1 v hv
  have b := hI'.1
  omega
theorem sd_5 (h96 : M 96 r = 5) (hA : mAs M fs how cd nf (L + 1) m n none r p E s y D f) (hD : mDy M σ Hd S c f p h E s) (K : ∀ k', k' ≤ k → ∀ S', pW c f (p + (k_em M fs.toNat nf m (eL (M 88 f) E) r p).length) h (16 * (c - 1) + (E.length - M 88 f)) (s.1 0) σ Hd S y.1 (pVal none y) S' → m_G cd pn Z k' S') : m_G cd pn Z k S := by
  obtain ⟨⟨⟨t, wv, hv⟩, hm, hu⟩, ⟨hk, ha⟩, hnf, ⟨z1, z2, z3, z4, z5, z6⟩, hC, hT⟩ := hA
  obtain ⟨m, rfl⟩ : ∃ m', m = m' + 1 := ⟨m - 1, by omega⟩
  cases n with
  | zero => cases hk
  | succ n =>
    rw [k_ck_n5 h96] at hk
    split at hk
    · cases hk
    · rename_i x hx
      split at hk
      · rename_i x2
        cases hk
        rw [k_em_5 h96] at hC K
        obtain ⟨c1, c2, -⟩ := hC
        try dsimp only at c1 c2
        rw [m_ad_o (by decide) (by decide)] at c1
        rw [m_ad_o (by decide) (by decide)] at c2
        obtain ⟨e1, e2⟩ := eO_fl z4 hD.2.1 z3 hx
        have e3 := e2.1.1 (by omega)
        refine gd_1 hD.2.2.2 c1 (by omega) e2.2 (fun k1 hk1 S1 a1 a2 a3 a4 => ?_)
        have rr := hI_r hD.2.2.1 e3.1
        have h41 : S1 4 = S 4 := a2.2.2.2.1
        have top : S1 0 (h + 1 - 1) = S 3 (16 * (c - 1) + k_lo (M 97 r) (eL (M 88 f) E)) := by rw [show h + 1 - 1 = h by omega]; exact a4
        refine gd_8 a1 c2 (by have := hD.2.2.2.2.2.2; omega) (by rw [top, a2.2.2.2.2]; omega) (fun k' hk' S' b1 b2 b3 b4 => K k' (by omega) S' ⟨σ, Hd, ?_, mK_Q (mK_tr a2 b2) (fun j hj => by rw [b3 j (by omega), a3 j hj]), hG_rf (mK_tr a2 b2).2.2.2.1, hI_q hD.2.2.1 (mK_tr a2 b2).2.2.2.1 (mK_tr a2 b2).2.2.2.2, fun _ _ _ => rfl, hD.1, ?_⟩)
        · rw [show p + 1 + 1 = p + 2 by omega] at b1
          exact b1
        · refine ⟨(fun q => by cases q), fun _ => ?_⟩
          rw [top, show h + 1 - 1 = h by omega, h41] at b4
          rw [b4]
          exact e3.2
      · cases hk
/-- brackets -/
theorem sd_15 (ih : ∀ w, mOK M fs how cd pn Z nf k L w) (h96 : M 96 r = 15) (hA : mAs M fs how cd nf (L + 1) m n w r p E s y D f) (hD : mDy M σ Hd S c f p h E s) (K : ∀ k', k' ≤ k → ∀ S', pW c f (p + (k_em M fs.toNat nf m (eL (M 88 f) E) r p).length) h (16 * (c - 1) + (E.length - M 88 f)) (s.1 0) σ Hd S y.1 (pVal w y) S' → m_G cd pn Z k' S') : m_G cd pn Z k S := by
  obtain ⟨⟨⟨t, wv, hv⟩, hm, hu⟩, ⟨hk, ha⟩, hnf, ⟨z1, z2, z3, z4, z5, z6⟩, hC, hT⟩ := hA
  obtain ⟨m, rfl⟩ : ∃ m', m = m' + 1 := ⟨m - 1, by omega⟩
  cases n with
  | zero => cases hk
  | succ n =>
    rw [k_ck_15 h96] at hk
    rw [k_em_15 (.inl h96)] at hC K
    obtain ⟨uk, ub⟩ := hu
    rw [pa_6 (by omega)] at ub
    obtain ⟨D1, D2, v1, -, v3, -⟩ := ub
    have hv' : vn M L (M 97 r) (t - 1) wv := by
      obtain ⟨_, _, hc⟩ := hv
      rcases hc with c | c | c | c | c | c | c | c | c | c | c | c <;> first | exact c.2 | (exfalso; omega)
    exact ih w m n (M 97 r) p E s y D1 c f h σ Hd S ⟨⟨⟨_, _, hv'⟩, by omega, v3⟩, ⟨hk, ha⟩, fun x hx => hnf x (v1 x hx).1, ⟨z1, z2, z3, z4, z5, z6⟩, hC, hT⟩ hD K
/-- print -/
theorem sd_7 (ih : ∀ w, mOK M fs how cd pn Z nf k L w) (h96 : M 96 r = 7) (hA : mAs M fs how cd nf (L + 1) m n none r p E s y D f) (hD : mDy M σ Hd S c f p h E s) (K : ∀ k', k' ≤ k → ∀ S', pW c f (p + (k_em M fs.toNat nf m (eL (M 88 f) E) r p).length) h (16 * (c - 1) + (E.length - M 88 f)) (s.1 0) σ Hd S y.1 (pVal none y) S' → m_G cd pn Z k' S') : m_G cd pn Z k S := by
  obtain ⟨⟨⟨t, wv, hv⟩, hm, hu⟩, ⟨hk, ha⟩, hnf, ⟨z1, z2, z3, z4, z5, z6⟩, hC, hT⟩ := hA
  obtain ⟨m, rfl⟩ : ∃ m', m = m' + 1 := ⟨m - 1, by omega⟩
  cases n with
  | zero => cases hk
  | succ n =>
    rw [k_ck_n7 h96] at hk
    have hk := (kM_nm hk).1
    rw [k_em_7 h96] at hC K
    obtain ⟨hC1, hC2, -⟩ := m_C_app.mp hC
    try dsimp only at hC2
    rw [m_ad_o (by decide) (by decide)] at hC2
    obtain ⟨uk, ub⟩ := hu
    rw [pa_6 (by omega)] at ub
    obtain ⟨D1, D2, v1, -, v3, -⟩ := ub
    have hv' : vn M L (M 97 r) (t - 1) wv := by
      obtain ⟨_, _, hc⟩ := hv
      rcases hc with c | c | c | c | c | c | c | c | c | c | c | c <;> first | exact c.2 | (exfalso; omega)
    refine ih none m n (M 97 r) p E s y D1 c f h σ Hd S ⟨⟨⟨_, _, hv'⟩, by omega, v3⟩, ⟨hk, ha⟩, fun x hx => hnf x (v1 x hx).1, ⟨z1, z2, z3, z4, z5, z6⟩, hC1, hT⟩ hD (fun k1 hk1 S1 q1 => ?_)
    obtain ⟨τ, Hd1, a1, a2, a3, a4, a5, a6, a7⟩ := q1
    have hh := hD.2.2.2.2.2.2
    refine gd_14 a1 hC2 (by omega) (fun k' hk' S' b1 b2 b3 => K k' (by omega) S' ⟨τ, Hd1, ?_, mQ_tr a2 (mK_Q b2 (fun j _ => by rw [b3])) (Int.le_refl _) (Int.le_refl _) (Int.le_refl _), hG_tr a3 (hG_rf b2.2.2.2.1), hI_q a4 b2.2.2.2.1 b2.2.2.2.2, a5, a6, ?_⟩)
    · rw [List.length_append]
      rw [show p + ((k_em M fs.toNat nf m (eL (M 88 f) E) (M 97 r) p).length : Int) + 1 = p + (((k_em M fs.toNat nf m (eL (M 88 f) E) (M 97 r) p).length + [((14 : Int), (0 : Int))].length : Nat) : Int) by rw [List.length_cons, List.length_nil]; omega] at b1
      exact b1
    · show vO Hd1 S' y.2.1 (S' 0 h) (u_v τ y.2.2)
      rw [b3]
      exact vO_go a7 (hG_rf b2.2.2.2.1)
/-- a new row -/
theorem sd_6 (ih : ∀ w, mOK M fs how cd pn Z nf k L w) (h96 : M 96 r = 6) (hA : mAs M fs how cd nf (L + 1) m n none r p E s y D f) (hD : mDy M σ Hd S c f p h E s) (K : ∀ k', k' ≤ k → ∀ S', pW c f (p + (k_em M fs.toNat nf m (eL (M 88 f) E) r p).length) h (16 * (c - 1) + (E.length - M 88 f)) (s.1 0) σ Hd S y.1 (pVal none y) S' → m_G cd pn Z k' S') : m_G cd pn Z k S := by
  obtain ⟨⟨⟨t, wv, hv⟩, hm, hu⟩, ⟨hk, ha⟩, hnf, ⟨z1, z2, z3, z4, z5, z6⟩, hC, hT⟩ := hA
  obtain ⟨m, rfl⟩ : ∃ m', m = m' + 1 := ⟨m - 1, by omega⟩
  cases n with
  | zero => cases hk
  | succ n =>
    rw [k_ck_n6 h96] at hk
    obtain ⟨y1, h1, h2⟩ := k_b_inv hk
    obtain ⟨s1, h3, h4⟩ := k_b_inv h2
    cases h4
    obtain ⟨h1, hb⟩ := kM_nm h1
    have ha1 : y1.1.1 4 = 1 := acR.2.2.2.1 _ _ _ _ h3 ha
    rw [k_em_6 h96] at hC K
    obtain ⟨hC1, hC2, -⟩ := m_C_app.mp hC
    try dsimp only at hC2
    rw [m_ad_o (by decide) (by decide)] at hC2
    obtain ⟨uk, ub⟩ := hu
    rw [pa_6 (by omega)] at ub
    obtain ⟨D1, D2, v1, -, v3, -⟩ := ub
    have hv' : vn M L (M 97 r) (t - 1) wv := by
      obtain ⟨_, _, hc⟩ := hv
      rcases hc with c | c | c | c | c | c | c | c | c | c | c | c <;> first | exact c.2 | (exfalso; omega)
    have hA1 : mAs M fs how cd nf L m n none (M 97 r) p E s y1 D1 f := ⟨⟨⟨_, _, hv'⟩, by omega, v3⟩, ⟨h1, ha1⟩, nf_pt hnf (fun x hx => (v1 x hx).1) (fun x _ => by dsimp only; rw [nf_af h3]), ⟨z1, z2, z3, z4, z5, z6⟩, hC1, hT⟩
    obtain ⟨zs, zv⟩ := mAs_z hA1
    have zv := zv rfl
    refine ih none m n (M 97 r) p E s y1 D1 c f h σ Hd S hA1 hD (fun k1 hk1 S1 q1 => ?_)
    obtain ⟨τ, Hd1, a1, a2, a3, a4, a5, a6, a7⟩ := q1
    have hh := hD.2.2.2.2.2.2
    have val : S1 0 h = u_v τ y1.2.2 := a7.2 hb
    refine gd_9 a1 hC2 (by omega) a4.1 (fun k' hk' g0 g1 S' b1 b2 b3 b4 b5 b6 b7 b8 b9 => ?_)
    rw [show h + 1 - 1 = h by omega] at g0 g1 b2 b3 b7 b8
    have gg : hG Hd1 S1 (fun a => Hd1 a ∨ a = S1 6 2) S' := fun a hx => ⟨.inl hx, b9 a (by have := a4.2.1 a hx; omega)⟩
    refine K k' (by omega) S' ⟨τ, fun a => Hd1 a ∨ a = S1 6 2, ?_, mQ_tr a2 ⟨fun j hj => b2 j hj, fun j _ => by rw [b4], b5, (fun j _ => by rw [b6.1]), fun j q => by rw [b6.2]; exact q⟩ (Int.le_refl _) (Int.le_refl _) (Int.le_refl _), hG_tr a3 gg, ⟨by rw [b7]; have := a4.1; omega, fun a hx => ?_, fun a b hx hy hab => ?_⟩, a5, fO_af zs.2.2.2 zv.1 h3 a6 (by rw [← val]; exact g0), ?_⟩
    · rw [List.length_append]
      rw [show p + ((k_em M fs.toNat nf m (eL (M 88 f) E) (M 97 r) p).length : Int) + 1 = p + (((k_em M fs.toNat nf m (eL (M 88 f) E) (M 97 r) p).length + [((9 : Int), (0 : Int))].length : Nat) : Int) by rw [List.length_cons, List.length_nil]; omega] at b1
      exact b1
    · rw [b7]
      rcases hx with hx | hx
      · rw [(gg a hx).2]
        have := a4.2.1 a hx
        omega
      · rw [hx, b8]
        have := a4.1
        omega
    · rcases hx with hx | hx
      · rw [(gg a hx).2]
        rcases hy with hy | hy
        · exact a4.2.2 a b hx hy hab
        · have := a4.2.1 a hx
          omega
      · rcases hy with hy | hy
        · have := a4.2.1 b hy
          omega
        · omega
    · refine ⟨fun _ => ⟨by rw [b3]; exact .inr rfl, ?_⟩, fun q => absurd rfl q⟩
      show S' 4 (S' 0 h) = u_v τ y1.2.2
      rw [b3, b8, val]
/-- a quotient -/
theorem sd_11 (ih : ∀ w, mOK M fs how cd pn Z nf k L w) (h96 : M 96 r = 11) (hA : mAs M fs how cd nf (L + 1) m n none r p E s y D f) (hD : mDy M σ Hd S c f p h E s) (K : ∀ k', k' ≤ k → ∀ S', pW c f (p + (k_em M fs.toNat nf m (eL (M 88 f) E) r p).length) h (16 * (c - 1) + (E.length - M 88 f)) (s.1 0) σ Hd S y.1 (pVal none y) S' → m_G cd pn Z k' S') : m_G cd pn Z k S := by
  obtain ⟨⟨⟨t, wv, hv⟩, hm, hu⟩, ⟨hk, ha⟩, hnf, ⟨z1, z2, z3, z4, z5, z6⟩, hC, hT⟩ := hA
  obtain ⟨m, rfl⟩ : ∃ m', m = m' + 1 := ⟨m - 1, by omega⟩
  cases n with
  | zero => cases hk
  | succ n =>
    rw [k_ck_tw (by omega)] at hk
    obtain ⟨y1, h1, h2⟩ := k_b_inv hk
    rw [if_pos h96] at h2
    obtain ⟨h1, hb⟩ := kM_nm h1
    have ha1 : y1.1.1 4 = 1 := kR_dv acR h2 ha
    rw [k_em_11 h96] at hC K
    obtain ⟨hC1, hC2, -⟩ := m_C_app.mp hC
    try dsimp only at hC2
    rw [m_ad_o (by decide) (by decide)] at hC2
    obtain ⟨uk, ub⟩ := hu
    rw [pa_6 (by omega)] at ub
    obtain ⟨D1, D2, v1, -, v3, -⟩ := ub
    have hv' : (1 ≤ M 98 r ∧ M 98 r ≤ 999) ∧ vn M L (M 97 r) (t - 1) wv := by
      obtain ⟨_, _, hc⟩ := hv
      rcases hc with c | c | c | c | c | c | c | c | c | c | c | c <;> first | exact c.2 | (exfalso; omega)
    have hA1 : mAs M fs how cd nf L m n none (M 97 r) p E s y1 D1 f := ⟨⟨⟨_, _, hv'.2⟩, by omega, v3⟩, ⟨h1, ha1⟩, nf_pt hnf (fun x hx => (v1 x hx).1) (fun x _ => by rw [nf_dv h2]), ⟨z1, z2, z3, z4, z5, z6⟩, hC1, hT⟩
    obtain ⟨zs, zv⟩ := mAs_z hA1
    have zv := zv rfl
    refine ih none m n (M 97 r) p E s y1 D1 c f h σ Hd S hA1 hD (fun k1 hk1 S1 q1 => ?_)
    obtain ⟨τ, Hd1, a1, a2, a3, a4, a5, a6, a7⟩ := q1
    have hh := hD.2.2.2.2.2.2
    have val : S1 0 h = u_v τ y1.2.2 := a7.2 hb
    unfold k_dv at h2
    obtain ⟨q0, g1, g2⟩ := k_b_inv h2
    obtain ⟨q1, g3, g4⟩ := k_b_inv g2
    obtain ⟨q2, g5, g6⟩ := k_b_inv g4
    cases g6
    obtain ⟨n1, n2, n3⟩ := fO_nv (v := S1 0 h / M 98 r) zs.2.2.2 g1 a6
    obtain ⟨zn, -, -, -, zw⟩ := zS_nv zs.2.2.2 g1
    have e0 : u_v (t_u τ q0.2 (S1 0 h / M 98 r)) y1.2.2 = S1 0 h := by rw [u_v_k zv.1 n1, val]
    have d1 := Int.mul_ediv_add_emod (S1 0 h) (M 98 r)
    have d2 := Int.emod_nonneg (S1 0 h) (show M 98 r ≠ 0 by omega)
    have d3 := Int.emod_lt_of_pos (S1 0 h) (show 0 < M 98 r by omega)
    have e1 : u_v (t_u τ q0.2 (S1 0 h / M 98 r)) (k_p y1.2.2 (k_w q0.2) (-(M 98 r))) = S1 0 h % M 98 r := by
      rw [u_v_p, e0, n3, Int.neg_mul]
      omega
    have uz1 : u_z (q0.1.1 0) (k_p y1.2.2 (k_w q0.2) (-(M 98 r))) := u_z_p (u_z_le zv.1 zn.1) zw
    obtain ⟨zA, zA2, -, -⟩ := zS_af zn.2.2.2 uz1 g3
    have f1 := fO_af zn.2.2.2 uz1 g3 n2 (by rw [e1]; exact d2)
    have f2 := fO_af zA.2.2.2 (by rw [zA2]; exact u_z_p (u_z_m uz1) u_z_n) g5 f1 (by rw [u_v_p, u_v_m, u_v_n, e1]; omega)
    refine gd_7 a1 hC2 (by omega) (by omega) (fun k' hk' S' b1 b2 b3 b4 => K k' (by omega) S' ⟨t_u τ q0.2 (S1 0 h / M 98 r), Hd1, ?_, mQ_tr a2 (mK_Q b2 (fun j hj => b3 j hj)) (Int.le_refl _) (by omega) (Int.le_refl _), hG_tr a3 (hG_rf b2.2.2.2.1), hI_q a4 b2.2.2.2.1 b2.2.2.2.2, fun j j0 j1 => ?_, f2, ?_⟩)
    · rw [List.length_append]
      rw [show p + ((k_em M fs.toNat nf m (eL (M 88 f) E) (M 97 r) p).length : Int) + 1 = p + (((k_em M fs.toNat nf m (eL (M 88 f) E) (M 97 r) p).length + [((7 : Int), M 98 r)].length : Nat) : Int) by rw [List.length_cons, List.length_nil]; omega] at b1
      exact b1
    · rw [n1 j j0 (by have := zs.1; omega)]
      exact a5 j j0 j1
    · refine ⟨(fun q => by cases q), fun _ => ?_⟩
      rw [show h + 1 - 1 = h by omega] at b4
      show S' 0 h = u_v _ (k_w q0.2)
      rw [n3, b4]
/-- a type is told -/
theorem sd_16 (ih : ∀ w, mOK M fs how cd pn Z nf k L w) (h96 : M 96 r = 16) (hA : mAs M fs how cd nf (L + 1) m n none r p E s y D f) (hD : mDy M σ Hd S c f p h E s) (K : ∀ k', k' ≤ k → ∀ S', pW c f (p + (k_em M fs.toNat nf m (eL (M 88 f) E) r p).length) h (16 * (c - 1) + (E.length - M 88 f)) (s.1 0) σ Hd S y.1 (pVal none y) S' → m_G cd pn Z k' S') : m_G cd pn Z k S := by
  obtain ⟨⟨⟨t, wv, hv⟩, hm, hu⟩, ⟨hk, ha⟩, hnf, ⟨z1, z2, z3, z4, z5, z6⟩, hC, hT⟩ := hA
  obtain ⟨m, rfl⟩ : ∃ m', m = m' + 1 := ⟨m - 1, by omega⟩
  cases n with
  | zero => cases hk
  | succ n =>
    rw [k_ck_n16 h96] at hk
    obtain ⟨th, h1, h2⟩ := k_b_inv hk
    obtain ⟨y1, h3, h4⟩ := k_b_inv h2
    have ha1 : y1.1.1 4 = 1 := kR_gv acR h4 ha
    rw [k_em_15 (.inr h96)] at hC K
    obtain ⟨uk, ub⟩ := hu
    rw [pa_6 (by omega)] at ub
    obtain ⟨D1, D2, v1, -, v3, -⟩ := ub
    have hv' : vn M L (M 97 r) (t - 2) wv := by
      obtain ⟨_, _, hc⟩ := hv
      rcases hc with c | c | c | c | c | c | c | c | c | c | c | c <;> first | exact c.2.2 | (exfalso; omega)
    have tz := tZ_rs z2 h1
    have hA1 : mAs M fs how cd nf L m n (some th) (M 97 r) p E s y1 D1 f := ⟨⟨⟨_, _, hv'⟩, by omega, v3⟩, ⟨h3, ha1⟩, nf_pt hnf (fun x hx => (v1 x hx).1) (fun x _ => by rw [nf_gv h4]), ⟨z1, z2, z3, z4, z5, z6⟩, hC, fun t' e => by cases e; exact tz⟩
    obtain ⟨zs, -⟩ := mAs_z hA1
    refine ih (some th) m n (M 97 r) p E s y1 D1 c f h σ Hd S hA1 hD (fun k1 hk1 S1 q1 => ?_)
    obtain ⟨τ, Hd1, a1, a2, a3, a4, a5, a6, a7⟩ := q1
    have tz1 : tZ (y1.1.1 0) th := tZ_le tz zs.1
    by_cases t3 : th.1 = 3
    · obtain ⟨o1, o2⟩ := a7.1 t3
      obtain ⟨τ', g1, g2, g3, g4⟩ := fO_gv zs.2.2.2 tz1 h4 a6 o2 (fun _ => (hI_r a4 o1).2.2.1)
      refine K k1 hk1 S1 ⟨τ', Hd1, a1, a2, a3, a4, fun j j0 j1 => by rw [g1 j j0 (by have := zs.1; omega)]; exact a5 j j0 j1, g2, ?_⟩
      show vO Hd1 S1 y.2.1 (S1 0 h) (u_v τ' y.2.2)
      rw [g4, if_pos t3, g3]
      exact ⟨fun _ => ⟨o1, rfl⟩, fun q => absurd rfl q⟩
    · obtain ⟨τ', g1, g2, g3, g4⟩ := fO_gv zs.2.2.2 tz1 h4 a6 (a7.2 t3) (fun q => absurd q t3)
      refine K k1 hk1 S1 ⟨τ', Hd1, a1, a2, a3, a4, fun j j0 j1 => by rw [g1 j j0 (by have := zs.1; omega)]; exact a5 j j0 j1, g2, ?_⟩
      show vO Hd1 S1 y.2.1 (S1 0 h) (u_v τ' y.2.2)
      rw [g4, if_neg t3, g3]
      exact ⟨(fun q => by cases q), fun _ => rfl⟩
/-- looked at for a type -/
theorem sd_s {t : k_h} (ih : mOK M fs how cd pn Z nf k (L + 1) none) (hp : k_pk (M 96 r)) (hA : mAs M fs how cd nf (L + 1) m n (some t) r p E s y D f) (hD : mDy M σ Hd S c f p h E s) (K : ∀ k', k' ≤ k → ∀ S', pW c f (p + (k_em M fs.toNat nf m (eL (M 88 f) E) r p).length) h (16 * (c - 1) + (E.length - M 88 f)) (s.1 0) σ Hd S y.1 (pVal (some t) y) S' → m_G cd pn Z k' S') : m_G cd pn Z k S := by
  obtain ⟨⟨hv, hm, hu⟩, ⟨hk, ha⟩, hnf, ⟨z1, z2, z3, z4, z5, z6⟩, hC, hT⟩ := hA
  cases n with
  | zero => cases hk
  | succ n =>
    rw [k_ck_s hp] at hk
    obtain ⟨y1, h1, h2⟩ := k_b_inv hk
    try dsimp only at h2
    split at h2
    · rename_i b3
      obtain ⟨s1, h3, h4⟩ := k_b_inv h2
      cases h4
      have ha1 : y1.1.1 4 = 1 := kR_ags acR h3 ha
      have hA1 : mAs M fs how cd nf (L + 1) m n none r p E s y1 D f := ⟨⟨hv, hm, hu⟩, ⟨h1, ha1⟩, fun x hx => by rw [hnf x hx]; dsimp only; rw [nf_ags h3], ⟨z1, z2, z3, z4, z5, z6⟩, hC, fun t' e => by cases e⟩
      obtain ⟨zs, zv⟩ := mAs_z hA1
      have zv := zv rfl
      refine ih m n r p E s y1 D c f h σ Hd S hA1 hD (fun k1 hk1 S1 q1 => ?_)
      obtain ⟨τ, Hd1, a1, a2, a3, a4, a5, a6, a7⟩ := q1
      obtain ⟨g1, -, g3⟩ := u_ags (by decide) zs.2.2.2 h3 ha a6
      refine K k1 hk1 S1 ⟨τ, Hd1, a1, a2, a3, a4, a5, g3, ?_⟩
      have tO' : tO τ t (u_v τ y1.2.2) := by
        unfold k_dm at g1
        by_cases c : t.1 = 1 ∨ t.1 = 3
        · rw [if_pos c, u_pd, u_v_p] at g1
          unfold rGp at g1
          rw [if_pos rfl] at g1
          exact ⟨fun _ => by omega, fun z => by omega⟩
        · rw [if_neg c, u_dp] at g1
          exact ⟨fun z => absurd z c, fun _ => g1⟩
      refine ⟨fun q => ?_, fun q => ?_⟩
      · obtain ⟨o1, o2⟩ := a7.1 (b3.mpr q)
        exact ⟨o1, by rw [o2]; exact tO'⟩
      · rw [a7.2 (fun z => q (b3.mp z))]
        exact tO'
    · cases h2
end

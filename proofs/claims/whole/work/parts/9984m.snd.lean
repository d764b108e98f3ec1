/-! RUNS AS IT SHOULD: accesses -/
theorem ac_sem {f pl r : Int} {g h : Int → Int} {w : Option (Int → Int)} {s : k_s} {y : k_v} {τ : Int → Int} (hs : sZ s) (hf : fO τ s) (q : k_ac f pl r g h w s = .inr y) : (y.1.2.2.2 r = 1 → 0 ≤ u_v τ h ∧ u_v τ h < u_v τ g) ∧ (y.1.2.2.2 r = 0 ∨ y.1.2.2.2 r = 1) ∧ y.2.1 = 0 ∧ (w = none → ∀ v, ∃ τ', (∀ k, 0 ≤ k → k < s.1 0 → τ' k = τ k) ∧ fO τ' y.1 ∧ u_v τ' y.2.2 = v) ∧ ∀ x, w = some x → fO τ y.1 ∧ y.2.2 = x := by
  rw [k_ac_aw] at q
  obtain ⟨s1, h1, h2⟩ := k_b_inv q
  obtain ⟨s2, h3, h4⟩ := k_b_inv h2
  obtain ⟨a1, a2, a3, a4⟩ := zS_ag hs h1
  obtain ⟨b1, b2, b3, b4⟩ := zS_ag a1.2.2.2 h3
  have g1 : s1.1 2 = s.1 2 + 1 ∧ s1.2.2.1 (s.1 2) 3 = k_sp s.2.1 (s.1 1) h := by
    unfold k_ag at h1
    split at h1
    · cases h1
    · cases h1
      refine ⟨?_, ?_⟩
      · show k_gn 0 h s 2 = _
        unfold k_gn
        split
        · rw [t_u_o (by decide), t_u_s rfl]
        · rw [t_u_o (by decide), t_u_s rfl]
      · show k_ur s.2.2.1 (s.1 2) (k_gr f pl 0 h s) (s.1 2) 3 = _
        unfold k_ur
        rw [if_pos rfl]
        unfold k_gr
        rw [if_neg (by decide), if_neg (by decide), if_neg (by decide), if_pos rfl]
  have g2 : s2.2.2.1 (s1.1 2) 3 = k_sp s1.2.1 (s1.1 1) (k_p (k_p (k_m h (-1)) g 1) (k_n 1) (-1)) ∧ s2.2.2.1 (s.1 2) = s1.2.2.1 (s.1 2) := by
    unfold k_ag at h3
    split at h3
    · cases h3
    · cases h3
      refine ⟨?_, ?_⟩
      · show k_ur s1.2.2.1 (s1.1 2) _ (s1.1 2) 3 = _
        unfold k_ur
        rw [if_pos rfl]
        unfold k_gr
        rw [if_neg (by decide), if_neg (by decide), if_neg (by decide), if_pos rfl]
      · show k_ur s1.2.2.1 (s1.1 2) _ (s.1 2) = _
        unfold k_ur
        exact if_neg (by omega)
  have hfr : (if s2.2.2.1 (s.1 2) 3 = 1 ∧ s2.2.2.1 (s1.1 2) 3 = 1 then (1 : Int) else 0) = 1 → 0 ≤ u_v τ h ∧ u_v τ h < u_v τ g := fun e => by
    by_cases c : s2.2.2.1 (s.1 2) 3 = 1 ∧ s2.2.2.1 (s1.1 2) 3 = 1
    · obtain ⟨c1, c2⟩ := c
      rw [g2.2, g1.2] at c1
      rw [g2.1, a3, a4] at c2
      have u1 := u_sp hs.2.1 hf c1
      have u2 := u_sp hs.2.1 hf c2
      rw [u_v_p, u_v_p, u_v_m, u_v_n] at u2
      omega
    · rw [if_neg c] at e
      cases e
  have h01 : (if s2.2.2.1 (s.1 2) 3 = 1 ∧ s2.2.2.1 (s1.1 2) 3 = 1 then (1 : Int) else 0) = 0 ∨ (if s2.2.2.1 (s.1 2) 3 = 1 ∧ s2.2.2.1 (s1.1 2) 3 = 1 then (1 : Int) else 0) = 1 := by split <;> omega
  generalize (if s2.2.2.1 (s.1 2) 3 = 1 ∧ s2.2.2.1 (s1.1 2) 3 = 1 then (1 : Int) else 0) = fr at h4 hfr h01
  have e0 : t_u (t_u s2.1 5 (s2.1 5 + 1)) 6 (s2.1 6 + fr) 0 = s2.1 0 := by rw [t_u_o (by decide), t_u_o (by decide)]
  have e1 : t_u (t_u s2.1 5 (s2.1 5 + 1)) 6 (s2.1 6 + fr) 1 = s2.1 1 := by rw [t_u_o (by decide), t_u_o (by decide)]
  have d : sZ ((t_u (t_u s2.1 5 (s2.1 5 + 1)) 6 (s2.1 6 + fr), s2.2.1, s2.2.2.1, t_u s2.2.2.2 r fr) : k_s) := by
    have := b1.2.2.2
    unfold sZ at this ⊢
    dsimp only
    rw [e0, e1]
    exact this
  have f3 : fO τ ((t_u (t_u s2.1 5 (s2.1 5 + 1)) 6 (s2.1 6 + fr), s2.2.1, s2.2.2.1, t_u s2.2.2.2 r fr) : k_s) := fO_zS hs hf (fun _ _ _ => rfl) (by dsimp only; rw [e1, b3, a3]) (fun j _ => by dsimp only; rw [b4, a4])
  cases w with
  | none =>
    have en := nf_nw h4
    have er : y.1.2.2.2 r = fr := by
      rw [en]
      exact t_u_s rfl
    unfold k_aw k_nw at h4
    obtain ⟨u, h5, h6⟩ := k_b_inv h4
    cases h6
    refine ⟨by rw [er]; exact hfr, by rw [er]; exact h01, rfl, fun _ v => ?_, fun x e => by cases e⟩
    obtain ⟨n1, n2, n3⟩ := fO_nv (v := v) d h5 f3
    refine ⟨_, fun j j0 j1 => n1 j j0 ?_, n2, n3⟩
    show j < t_u (t_u s2.1 5 (s2.1 5 + 1)) 6 (s2.1 6 + fr) 0
    rw [e0, b2, a2]
    exact j1
  | some x =>
    cases h4
    have er : t_u s2.2.2.2 r fr r = fr := t_u_s rfl
    refine ⟨?_, ?_, rfl, fun e => (by cases e), fun x' e => ?_⟩
    · dsimp only
      rw [er]; exact hfr
    · dsimp only
      rw [er]; exact h01
    · cases e
      exact ⟨f3, rfl⟩
/-- the access as it is run -/
theorem m_ad_a {how g fr : Int} (hg : g = 0 ∨ g = 1) (h01 : fr = 0 ∨ fr = 1) : ((g = 0 ∧ (m_ad how (10 + 2 * g + fr) = 10 ∨ m_ad how (10 + 2 * g + fr) = 11)) ∨ (g = 1 ∧ (m_ad how (10 + 2 * g + fr) = 12 ∨ m_ad how (10 + 2 * g + fr) = 13))) ∧ (m_ad how (10 + 2 * g + fr) = 11 ∨ m_ad how (10 + 2 * g + fr) = 13 → fr = 1) := by
  unfold m_ad
  by_cases hh : how = 1
  · rw [if_pos hh]
    omega
  · rw [if_neg hh]
    rcases hg with rfl | rfl <;> rcases h01 with rfl | rfl
    · rw [if_neg (by decide), if_neg (by decide)]; omega
    · rw [if_pos (by decide)]; omega
    · rw [if_neg (by decide), if_neg (by decide)]; omega
    · rw [if_neg (by decide), if_pos (by decide)]; omega
section
variable {M : Nat → Int → Int} {fs how : Int} {cd : Int → Int → Option (Int × Int)} {pn : Int → Int} {Z : m_T → Prop} {nf : Int → Int} {k L m n : Nat} {w : Option k_h} {r p : Int} {E : k_E} {s : k_s} {y : k_v} {D : Int → Prop} {c f h : Int} {σ : Int → Int} {Hd : Int → Prop} {S : m_T}
/-- a number of a row is written: rows stay -/
theorem hI_w {S' : m_T} {row i : Int} (hI' : hI Hd S) (hr : Hd row) (h0 : 0 ≤ i ∧ i < S 4 row) (h4 : ∀ j, j ≠ row + 1 + i → S' 4 j = S 4 j) (h2 : S' 6 2 = S 6 2) : hG Hd S Hd S' ∧ hI Hd S' := by
  have ne : ∀ a, Hd a → a ≠ row + 1 + i := fun a ha e => by
    have := hI'.2.2 row a hr ha (by omega)
    omega
  have g : hG Hd S Hd S' := fun a ha => ⟨ha, h4 a (ne a ha)⟩
  refine ⟨g, by rw [h2]; exact hI'.1, fun a ha => ?_, fun a b ha hb hab => ?_⟩
  · rw [(g a ha).2, h2]; exact hI'.2.1 a ha
  · rw [(g a ha).2]; exact hI'.2.2 a b ha hb hab
theorem sd_2 (ih : ∀ k', k' ≤ k → ∀ w, mOK M fs how cd pn Z nf k' L w) (h96 : M 96 r = 2) (hA : mAs M fs how cd nf (L + 1) m n none r p E s y D f) (hD : mDy M σ Hd S c f p h E s) (K : ∀ k', k' ≤ k → ∀ S', pW c f (p + (k_em M fs.toNat nf m (eL (M 88 f) E) r p).length) h (16 * (c - 1) + (E.length - M 88 f)) (s.1 0) σ Hd S y.1 (pVal none y) S' → m_G cd pn Z k' S') : m_G cd pn Z k S := by
  obtain ⟨⟨⟨t, wv, hv⟩, hm, hu⟩, ⟨hk, ha⟩, hnf, ⟨z1, z2, z3, z4, z5, z6⟩, hC, hT⟩ := hA
  obtain ⟨m, rfl⟩ : ∃ m', m = m' + 1 := ⟨m - 1, by omega⟩
  cases n with
  | zero => cases hk
  | succ n =>
    rw [k_ck_n2 (.inl h96)] at hk
    split at hk
    · cases hk
    rename_i x hx
    split at hk
    · rename_i x2
      obtain ⟨y1, h1, h2⟩ := k_b_inv hk
      try rw [if_pos h96] at h2
      obtain ⟨h1, hb1⟩ := kM_nm h1
      have ha1 : y1.1.1 4 = 1 := kR_ac acR h2 ha
      rw [k_em_2 h96] at hC K
      obtain ⟨hC0, hC⟩ := hC
      obtain ⟨hC1, hC2, -⟩ := m_C_app.mp hC
      try dsimp only at hC0 hC2
      rw [m_ad_o (by decide) (by decide)] at hC0
      obtain ⟨⟨uk, ua⟩, ub⟩ := hu
      rw [pa_2 h96] at ub
      obtain ⟨D1, D2, v1, -, v3, -⟩ := ub
      have hv' : vn M L (M 98 r) (t - 1) wv := by
        obtain ⟨_, _, hc⟩ := hv
        rcases hc with c | c | c | c | c | c | c | c | c | c | c | c <;> first | exact c.2 | (exfalso; omega)
      have hA1 : mAs M fs how cd nf L m n none (M 98 r) (p + 1) E s y1 D1 f := ⟨⟨⟨_, _, hv'⟩, by omega, v3⟩, ⟨h1, ha1⟩, nf_pt hnf (fun x hx => (v1 x hx).1) (fun x hx => by rw [nf_ac h2 x ((v1 x hx).2 (.inl h96))]), ⟨z1, z2, z3, z4, z5, z6⟩, hC1, fun t' e => by cases e⟩
      obtain ⟨zs, zv⟩ := mAs_z hA1
      have zv := zv rfl
      have nr : nf r = y.1.2.2.2 r := hnf r (ua (.inl h96))
      obtain ⟨e1, e2⟩ := eO_fl z4 hD.2.1 z3 hx
      have e3 := e2.1.1 (by omega)
      have hh := hD.2.2.2.2.2.2
      refine gd_1 hD.2.2.2 hC0 (by omega) e2.2 (fun k1 hk1 S1 a1 a2 a3 a4 => ?_)
      have dy1 := mDy_K hD a2 a1 (eZ_24 z2 z1.1.2)
      refine ih k1 (by omega) none m n (M 98 r) (p + 1) E s y1 D1 c f (h + 1) σ Hd S1 hA1 dy1 (fun k2 hk2 S2 q2 => ?_)
      obtain ⟨τ2, Hd2, dy2, b7, b2, b3, b5⟩ := mDy_go dy1 z2 (Int.le_refl _) q2
      have rowv : S2 0 h = S 3 (16 * (c - 1) + k_lo (M 97 r) (eL (M 88 f) E)) := by rw [b2.1 h (by omega), a4]
      have g2 : hG Hd S Hd2 S2 := hG_tr (hG_rf a2.2.2.2.1) b3
      have rowo := g2 _ e3.1
      have rr := hI_r dy2.2.2.1 rowo.1
      obtain ⟨ac1, ac2, ac3, ac4, -⟩ := ac_sem zs.2.2.2 dy2.1 h2
      have lenv : u_v τ2 x.2 = S2 4 (S 3 (16 * (c - 1) + k_lo (M 97 r) (eL (M 88 f) E))) := by rw [rowo.2, e3.2, u_v_k (eZ_fl z2 hx) b5]
      have idx : S2 0 (h + 1) = u_v τ2 y1.2.2 := b7.2 hb1
      obtain ⟨op1, op2⟩ := m_ad_a (how := how) (g := 0) (fr := nf r) (.inl rfl) (by rw [nr]; exact ac2)
      have i1 : S2 0 (h + 1 + 1 - 1 - 0) = u_v τ2 y1.2.2 := by rw [show h + 1 + 1 - 1 - 0 = h + 1 by omega]; exact idx
      have i2 : S2 0 (h + 1 + 1 - 2 - 0) = S 3 (16 * (c - 1) + k_lo (M 97 r) (eL (M 88 f) E)) := by rw [show h + 1 + 1 - 2 - 0 = h by omega]; exact rowv
      refine gd_a (g := 0) (op := m_ad how (10 + 2 * 0 + nf r)) op1 dy2.2.2.2 hC2 (by omega) i1 i2 (by omega) (fun e => ?_) (fun k' hk' g0 g1 S' q3 => ?_)
      · have := ac1 (by rw [← nr]; exact op2 e)
        omega
      obtain ⟨c1, c2, c3, c4, c5, c6, c7, c8⟩ := q3
      rw [show h + 1 + 1 - 1 - 0 = h + 1 by omega] at c1
      rw [show h + 1 + 1 - 2 - 0 = h by omega] at c2
      obtain ⟨gw, iw⟩ := hI_w dy2.2.2.1 rowo.1 ⟨g0, g1⟩ c8 c7
      obtain ⟨τ3, n1, n2, n3⟩ := ac4 rfl (S' 0 h)
      refine K k' (by omega) S' ⟨τ3, Hd2, ?_, mQ_tr (mQ_tr (mK_Q (l := 16 * (c - 1) + (E.length - M 88 f)) a2 a3) b2 (Int.le_refl _) (by omega) (Int.le_refl _)) ⟨c2, fun j _ => by rw [c4], c5, (fun j _ => by rw [c6.1]), fun j q => by rw [c6.2]; exact q⟩ (Int.le_refl _) (Int.le_refl _) (Int.le_refl _), hG_tr g2 gw, iw, fun j j0 j1 => ?_, n2, ?_⟩
      · rw [List.length_cons, List.length_append, List.length_cons, List.length_nil]
        have e : p + (((k_em M fs.toNat nf m (eL (M 88 f) E) (M 98 r) (p + 1)).length + (0 + 1) + 1 : Nat) : Int) = p + 1 + (k_em M fs.toNat nf m (eL (M 88 f) E) (M 98 r) (p + 1)).length + 1 := by omega
        rw [e]
        exact c1
      · have := zs.1
        rw [n1 j j0 (by omega)]
        exact b5 j j0 j1
      · show vO Hd2 S' y.2.1 (S' 0 h) (u_v τ3 y.2.2)
        rw [ac3, n3]
        exact ⟨(fun q => by cases q), fun _ => rfl⟩
    · cases hk
theorem sd_3 (ih : ∀ k', k' ≤ k → ∀ w, mOK M fs how cd pn Z nf k' L w) (h96 : M 96 r = 3) (hA : mAs M fs how cd nf (L + 1) m n none r p E s y D f) (hD : mDy M σ Hd S c f p h E s) (K : ∀ k', k' ≤ k → ∀ S', pW c f (p + (k_em M fs.toNat nf m (eL (M 88 f) E) r p).length) h (16 * (c - 1) + (E.length - M 88 f)) (s.1 0) σ Hd S y.1 (pVal none y) S' → m_G cd pn Z k' S') : m_G cd pn Z k S := by
  obtain ⟨⟨⟨t, wv, hv⟩, hm, hu⟩, ⟨hk, ha⟩, hnf, ⟨z1, z2, z3, z4, z5, z6⟩, hC, hT⟩ := hA
  obtain ⟨m, rfl⟩ : ∃ m', m = m' + 1 := ⟨m - 1, by omega⟩
  cases n with
  | zero => cases hk
  | succ n =>
    rw [k_ck_n2 (.inr h96)] at hk
    split at hk
    · cases hk
    rename_i x hx
    split at hk
    · rename_i x2
      obtain ⟨y1, h1, h2⟩ := k_b_inv hk
      rw [if_neg (by omega)] at h2
      obtain ⟨y2, h3, h4⟩ := k_b_inv h2
      obtain ⟨h1, hb1⟩ := kM_nm h1
      obtain ⟨h3, hb2⟩ := kM_nm h3
      have ha2 : y2.1.1 4 = 1 := kR_ac acR h4 ha
      have ha1 : y1.1.1 4 = 1 := kR_ck acR h3 ha2
      rw [k_em_3 h96] at hC K
      obtain ⟨hC0, hC⟩ := hC
      obtain ⟨hC12, hC3, -⟩ := m_C_app.mp hC
      obtain ⟨hC1, hC2⟩ := m_C_app.mp hC12
      try dsimp only at hC0 hC3
      rw [m_ad_o (by decide) (by decide)] at hC0
      rw [List.length_append] at hC3
      generalize eA : k_em M fs.toNat nf m (eL (M 88 f) E) (M 98 r) (p + 1) = cA at hC1 hC2 hC3 K
      generalize eB : k_em M fs.toNat nf m (eL (M 88 f) E) (M 99 r) (p + 1 + cA.length) = cB at hC2 hC3 K
      obtain ⟨⟨uk, ua⟩, ub⟩ := hu
      rw [pa_3 h96] at ub
      obtain ⟨D1, D2, v1, v2, v3, D3, D4, v4, -, v6, -⟩ := ub
      have hv' : vn M L (M 98 r) (t - 1) wv ∧ vn M L (M 99 r) (t - 1) (wv - 1) := by
        obtain ⟨_, _, hc⟩ := hv
        rcases hc with c | c | c | c | c | c | c | c | c | c | c | c <;> first | exact c.2 | (exfalso; omega)
      have hA1 : mAs M fs how cd nf L m n none (M 98 r) (p + 1) E s y1 D1 f := ⟨⟨⟨_, _, hv'.1⟩, by omega, v3⟩, ⟨h1, ha1⟩, nf_pt hnf (fun x hx => (v1 x hx).1) (fun x hx => by rw [nf_ac h4 x ((v1 x hx).2 (.inr h96)), nf_ck n v6 h3 x (fun z => (v2 x (v4 x z)).2 hx)]), ⟨z1, z2, z3, z4, z5, z6⟩, by rw [eA]; exact hC1, fun t' e => by cases e⟩
      obtain ⟨zs, zv⟩ := mAs_z hA1
      have zv := zv rfl
      have hA2 : mAs M fs how cd nf L m n none (M 99 r) (p + 1 + cA.length) E y1.1 y2 D3 f := ⟨⟨⟨_, _, hv'.2⟩, by omega, v6⟩, ⟨h3, ha2⟩, nf_pt hnf (fun x hx => (v2 x (v4 x hx)).1.1) (fun x hx => by rw [nf_ac h4 x ((v2 x (v4 x hx)).1.2 (.inr h96))]), ⟨zs.2.2.2, eZ_le z2 zs.1, z3, z4, z5, z6⟩, by rw [eB]; exact hC2, fun t' e => by cases e⟩
      obtain ⟨zs2, zv2⟩ := mAs_z hA2
      have zv2 := zv2 rfl
      have nr : nf r = y.1.2.2.2 r := hnf r (ua (.inr h96))
      obtain ⟨e1, e2⟩ := eO_fl z4 hD.2.1 z3 hx
      have e3 := e2.1.1 (by omega)
      have hh := hD.2.2.2.2.2.2
      refine gd_1 hD.2.2.2 hC0 (by omega) e2.2 (fun k1 hk1 S1 a1 a2 a3 a4 => ?_)
      have dy1 := mDy_K hD a2 a1 (eZ_24 z2 z1.1.2)
      refine ih k1 (by omega) none m n (M 98 r) (p + 1) E s y1 D1 c f (h + 1) σ Hd S1 hA1 dy1 (fun k2 hk2 S2 q2 => ?_)
      rw [eA] at q2
      obtain ⟨τ2, Hd2, dy2, b7, b2, b3, b5⟩ := mDy_go dy1 z2 (Int.le_refl _) q2
      refine ih k2 (by omega) none m n (M 99 r) _ E y1.1 y2 D3 c f (h + 1 + 1) τ2 Hd2 S2 hA2 dy2 (fun k3 hk3 S3 q3 => ?_)
      rw [eB] at q3
      obtain ⟨τ3, Hd3, dy3, d7, d2, d3, d5⟩ := mDy_go dy2 (eZ_le z2 zs.1) (Int.le_refl _) q3
      have rowv : S3 0 h = S 3 (16 * (c - 1) + k_lo (M 97 r) (eL (M 88 f) E)) := by rw [d2.1 h (by omega), b2.1 h (by omega), a4]
      have g2 : hG Hd S Hd3 S3 := hG_tr (hG_rf a2.2.2.2.1) (hG_tr b3 d3)
      have rowo := g2 _ e3.1
      have rr := hI_r dy3.2.2.1 rowo.1
      obtain ⟨ac1, ac2, ac3, -, ac5⟩ := ac_sem zs2.2.2.2 dy3.1 h4
      have zss := zs.1
      have lenv : u_v τ3 x.2 = S3 4 (S 3 (16 * (c - 1) + k_lo (M 97 r) (eL (M 88 f) E))) := by rw [rowo.2, e3.2, u_v_k (eZ_fl z2 hx) (fun j j0 j1 => by rw [d5 j j0 (by omega), b5 j j0 j1])]
      have idx : S3 0 (h + 1) = u_v τ3 y1.2.2 := by rw [d2.1 (h + 1) (by omega), u_v_k zv.1 d5]; exact b7.2 hb1
      have wrt : S3 0 (h + 1 + 1) = u_v τ3 y2.2.2 := d7.2 hb2
      obtain ⟨op1, op2⟩ := m_ad_a (how := how) (g := 1) (fr := nf r) (.inr rfl) (by rw [nr]; exact ac2)
      have i1 : S3 0 (h + 1 + 1 + 1 - 1 - 1) = u_v τ3 y1.2.2 := by rw [show h + 1 + 1 + 1 - 1 - 1 = h + 1 by omega]; exact idx
      have i2 : S3 0 (h + 1 + 1 + 1 - 2 - 1) = S 3 (16 * (c - 1) + k_lo (M 97 r) (eL (M 88 f) E)) := by rw [show h + 1 + 1 + 1 - 2 - 1 = h by omega]; exact rowv
      have ep : p + 1 + ((cA.length + cB.length : Nat) : Int) = p + 1 + cA.length + cB.length := by omega
      rw [ep] at hC3
      refine gd_a (g := 1) (op := m_ad how (10 + 2 * 1 + nf r)) op1 dy3.2.2.2 hC3 (by omega) i1 i2 (by omega) (fun e => ?_) (fun k' hk' g0 g1 S' q4 => ?_)
      · have := ac1 (by rw [← nr]; exact op2 e)
        omega
      obtain ⟨c1, c2, c3, c4, c5, c6, c7, c8⟩ := q4
      rw [show h + 1 + 1 + 1 - 1 - 1 = h + 1 by omega] at c1
      rw [show h + 1 + 1 + 1 - 2 - 1 = h by omega] at c2 c3
      rw [if_pos rfl, show h + 1 + 1 + 1 - 1 = h + 1 + 1 by omega] at c3
      obtain ⟨gw, iw⟩ := hI_w dy3.2.2.1 rowo.1 ⟨g0, g1⟩ c8 c7
      obtain ⟨f5, x5⟩ := ac5 _ rfl
      refine K k' (by omega) S' ⟨τ3, Hd3, ?_, mQ_tr (mQ_tr (mQ_tr (mK_Q (l := 16 * (c - 1) + (E.length - M 88 f)) a2 a3) b2 (Int.le_refl _) (by omega) (Int.le_refl _)) d2 (Int.le_refl _) (by omega) (Int.le_refl _)) ⟨c2, fun j _ => by rw [c4], c5, (fun j _ => by rw [c6.1]), fun j q => by rw [c6.2]; exact q⟩ (Int.le_refl _) (Int.le_refl _) (Int.le_refl _), hG_tr g2 gw, iw, fun j j0 j1 => ?_, f5, ?_⟩
      · rw [List.length_cons, List.length_append, List.length_append, List.length_cons, List.length_nil]
        have e : p + ((cA.length + cB.length + (0 + 1) + 1 : Nat) : Int) = p + 1 + cA.length + cB.length + 1 := by omega
        rw [e]
        exact c1
      · rw [d5 j j0 (by omega)]
        exact b5 j j0 j1
      · show vO Hd3 S' y.2.1 (S' 0 h) (u_v τ3 y.2.2)
        rw [ac3, x5, c3, wrt]
        exact ⟨(fun q => by cases q), fun _ => rfl⟩
    · cases hk
end

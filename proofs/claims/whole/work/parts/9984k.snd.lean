/-! RUNS AS IT SHOULD: two parts, let, if -/
theorem sm_sem {pl : Int} {h : Int → Int} {s : k_s} {y : k_v} {τ : Int → Int} (hs : sZ s) (hf : fO τ s) (q : k_sm pl h s = .inr y) : ∃ τ', (∀ k, 0 ≤ k → k < s.1 0 → τ' k = τ k) ∧ fO τ' y.1 ∧ u_v τ' y.2.2 = u_v τ h ∧ y.2.1 = 0 := by
  rw [k_sm_nw] at q
  by_cases hi : k_in 1000000 h 0
  · rw [k_if_t hi] at q
    cases q
    exact ⟨τ, fun _ _ _ => rfl, hf, rfl, rfl⟩
  · rw [k_if_f hi] at q
    unfold k_nw at q
    obtain ⟨a, h1, h2⟩ := k_b_inv q
    cases h2
    obtain ⟨n1, n2, n3⟩ := fO_nv (v := u_v τ h) hs h1 hf
    exact ⟨_, n1, n2, n3, rfl⟩
theorem u_v_cn {σ h : Int → Int} (hk : k_u 0 h 0) : u_v σ h = h 24 := by
  unfold u_v
  rw [u_s_0 (fun k a b => hk.1 k a (by omega))]
  omega
theorem tw_sem {kd pl : Int} {h g : Int → Int} {s : k_s} {y : k_v} {τ : Int → Int} (hkd : kd = 8 ∨ kd = 9 ∨ kd = 10) (hs : sZ s) (hf : fO τ s) (q : k_tw kd pl h g s = .inr y) : ∃ τ', (∀ k, 0 ≤ k → k < s.1 0 → τ' k = τ k) ∧ fO τ' y.1 ∧ u_v τ' y.2.2 = m_av (kd - 4) (u_v τ h) (u_v τ g) ∧ y.2.1 = 0 := by
  unfold k_tw k_ml at q
  split at q
  · rename_i k10
    have e : m_av (kd - 4) (u_v τ h) (u_v τ g) = u_v τ h * u_v τ g := by
      unfold m_av
      rw [if_neg (by omega), if_neg (by omega)]
    rw [e]
    by_cases h1 : k_u 0 h 0
    · rw [k_if_t h1] at q
      obtain ⟨τ', a, b, c, d⟩ := sm_sem hs hf q
      exact ⟨τ', a, b, by rw [c, u_v_m, u_v_cn h1], d⟩
    · rw [k_if_f h1] at q
      by_cases h2 : k_u 0 g 0
      · rw [k_if_t h2] at q
        obtain ⟨τ', a, b, c, d⟩ := sm_sem hs hf q
        exact ⟨τ', a, b, by rw [c, u_v_m, u_v_cn h2, Int.mul_comm], d⟩
      · rw [k_if_f h2] at q
        obtain ⟨a, h3, h4⟩ := k_b_inv q
        cases h4
        obtain ⟨n1, n2, n3⟩ := fO_nv (v := u_v τ h * u_v τ g) hs h3 hf
        exact ⟨_, n1, n2, n3, rfl⟩
  · rename_i k10
    obtain ⟨τ', a, b, c, d⟩ := sm_sem hs hf q
    refine ⟨τ', a, b, ?_, d⟩
    rw [c, u_v_p]
    unfold m_av
    by_cases k8 : kd = 8
    · rw [if_pos k8, if_pos (by omega)]
      omega
    · rw [if_neg k8, if_neg (by omega), if_pos (by omega)]
      omega
theorem jn_sem {pl pe v b b' X : Int} {h h' : Int → Int} {s : k_s} {y : k_v} {τ : Int → Int} (hs : sZ s) (hf : fO τ s) (hX : X = u_v τ h ∨ X = u_v τ h') (h0 : b = 1 → 0 ≤ X) (hb : b = 0 ∨ b = 1) (q : k_jn pl pe v b h b' h' s = .inr y) : b = b' ∧ ∃ τ', (∀ k, 0 ≤ k → k < s.1 0 → τ' k = τ k) ∧ fO τ' y.1 ∧ u_v τ' y.2.2 = X ∧ y.2.1 = b := by
  unfold k_jn at q
  split at q
  · cases q
  · rename_i c
    have c : b = b' := Decidable.byContradiction c
    refine ⟨c, ?_⟩
    by_cases hc : k_e h h' ∧ k_u v h 0
    · rw [k_if_t hc] at q
      cases q
      refine ⟨τ, fun _ _ _ => rfl, hf, ?_, rfl⟩
      rcases hX with e | e
      · exact e.symm
      · rw [e]
        exact u_v_q hc.1
    · rw [k_if_f hc] at q
      obtain ⟨a, h1, h2⟩ := k_b_inv q
      obtain ⟨n1, n2, n3⟩ := fO_nv (v := X) hs h1 hf
      obtain ⟨zn, -, -, -, zw⟩ := zS_nv hs h1
      try dsimp only at h2
      split at h2
      · rename_i b1
        obtain ⟨c2, h3, h4⟩ := k_b_inv h2
        cases h4
        exact ⟨_, n1, fO_af zn.2.2.2 zw h3 n2 (by rw [n3]; exact h0 b1), n3, b1.symm⟩
      · cases h2
        exact ⟨_, n1, n2, n3, by dsimp only; omega⟩
/-- a relation that holds, and its contrary -/
theorem hb_t {r a b : Int} (hr : 0 ≤ r ∧ r ≤ 4) (h : m_hb r a b = true) : rGp r (b - a) := by
  unfold m_hb at h
  have h := of_decide_eq_true h
  unfold rGp
  by_cases r2 : r = 2
  · rw [if_pos r2]; omega
  · rw [if_neg r2]
    by_cases r0 : r = 0
    · rw [if_pos r0]; omega
    · rw [if_neg r0]
      by_cases r1 : r = 1
      · rw [if_pos r1]; omega
      · rw [if_neg r1]
        by_cases r4 : r = 4
        · rw [if_pos r4]; omega
        · rw [if_neg r4]; omega
theorem hb_f {r a b : Int} (hr : 0 ≤ r ∧ r ≤ 4) (r2 : r ≠ 2) (h : ¬ m_hb r a b = true) : rGp (k_ct r) (b - a) := by
  unfold m_hb at h
  have h : ¬ ((r = 0 ∧ a < b) ∨ (r = 1 ∧ a ≤ b) ∨ (r = 2 ∧ a = b) ∨ (r = 3 ∧ b ≤ a) ∨ (r = 4 ∧ b < a)) := fun q => h (decide_eq_true q)
  unfold k_ct rGp
  by_cases r0 : r = 0
  · rw [if_pos r0, if_neg (by decide), if_neg (by decide), if_neg (by decide), if_neg (by decide)]; omega
  · rw [if_neg r0]
    by_cases r1 : r = 1
    · rw [if_pos r1, if_neg (by decide), if_neg (by decide), if_neg (by decide), if_pos (by decide)]; omega
    · rw [if_neg r1]
      by_cases r3 : r = 3
      · rw [if_pos r3, if_neg (by decide), if_pos (by decide)]; omega
      · rw [if_neg r3, if_neg (by decide), if_neg (by decide), if_pos (by decide)]; omega
section
variable {M : Nat → Int → Int} {fs how : Int} {cd : Int → Int → Option (Int × Int)} {pn : Int → Int} {Z : m_T → Prop} {nf : Int → Int} {k L m n : Nat} {w : Option k_h} {r p : Int} {E : k_E} {s : k_s} {y : k_v} {D : Int → Prop} {c f h : Int} {σ : Int → Int} {Hd : Int → Prop} {S : m_T}
theorem sd_8 (ih : ∀ k', k' ≤ k → ∀ w, mOK M fs how cd pn Z nf k' L w) (h96 : M 96 r = 8 ∨ M 96 r = 9 ∨ M 96 r = 10) (hA : mAs M fs how cd nf (L + 1) m n none r p E s y D f) (hD : mDy M σ Hd S c f p h E s) (K : ∀ k', k' ≤ k → ∀ S', pW c f (p + (k_em M fs.toNat nf m (eL (M 88 f) E) r p).length) h (16 * (c - 1) + (E.length - M 88 f)) (s.1 0) σ Hd S y.1 (pVal none y) S' → m_G cd pn Z k' S') : m_G cd pn Z k S := by
  obtain ⟨⟨⟨t, wv, hv⟩, hm, hu⟩, ⟨hk, ha⟩, hnf, ⟨z1, z2, z3, z4, z5, z6⟩, hC, hT⟩ := hA
  obtain ⟨m, rfl⟩ : ∃ m', m = m' + 1 := ⟨m - 1, by omega⟩
  cases n with
  | zero => cases hk
  | succ n =>
    rw [k_ck_tw (by omega)] at hk
    obtain ⟨y1, h1, h2⟩ := k_b_inv hk
    rw [if_neg (by omega)] at h2
    obtain ⟨y2, h3, h4⟩ := k_b_inv h2
    obtain ⟨h1, hb1⟩ := kM_nm h1
    obtain ⟨h3, hb2⟩ := kM_nm h3
    have ha2 : y2.1.1 4 = 1 := kR_tw acR h4 ha
    have ha1 : y1.1.1 4 = 1 := kR_ck acR h3 ha2
    rw [k_em_8 h96] at hC K
    obtain ⟨hC12, hC3, -⟩ := m_C_app.mp hC
    obtain ⟨hC1, hC2⟩ := m_C_app.mp hC12
    try dsimp only at hC3
    rw [m_ad_o (by omega) (by omega), List.length_append] at hC3
    obtain ⟨uk, ub⟩ := hu
    rw [pa_8 (by omega)] at ub
    obtain ⟨D1, D2, v1, v2, v3, D3, D4, v4, -, v6, -⟩ := ub
    have hv' : vn M L (M 97 r) (t - 1) wv ∧ vn M L (M 98 r) (t - 1) (wv - 1) := by
      obtain ⟨_, _, hc⟩ := hv
      rcases hc with c | c | c | c | c | c | c | c | c | c | c | c <;> first | exact c.2 | (exfalso; omega)
    have hA1 : mAs M fs how cd nf L m n none (M 97 r) p E s y1 D1 f := ⟨⟨⟨_, _, hv'.1⟩, by omega, v3⟩, ⟨h1, ha1⟩, nf_pt hnf (fun x hx => (v1 x hx).1) (fun x hx => by rw [nf_tw h4, nf_ck n v6 h3 x (fun z => (v2 x (v4 x z)).2 hx)]), ⟨z1, z2, z3, z4, z5, z6⟩, hC1, hT⟩
    obtain ⟨zs, zv⟩ := mAs_z hA1
    have zv := zv rfl
    have hA2 : mAs M fs how cd nf L m n none (M 98 r) (p + (k_em M fs.toNat nf m (eL (M 88 f) E) (M 97 r) p).length) E y1.1 y2 D3 f := ⟨⟨⟨_, _, hv'.2⟩, by omega, v6⟩, ⟨h3, ha2⟩, nf_pt hnf (fun x hx => (v2 x (v4 x hx)).1.1) (fun x hx => by rw [nf_tw h4]), ⟨zs.2.2.2, eZ_le z2 zs.1, z3, z4, z5, z6⟩, hC2, fun t' e => by cases e⟩
    obtain ⟨zs2, zv2⟩ := mAs_z hA2
    have zv2 := zv2 rfl
    refine ih k (Nat.le_refl _) none m n (M 97 r) p E s y1 D1 c f h σ Hd S hA1 hD (fun k1 hk1 S1 q1 => ?_)
    obtain ⟨τ1, Hd1, dy1, a7, a2, a3, a5⟩ := mDy_go hD z2 (Int.le_refl _) q1
    refine ih k1 (by omega) none m n (M 98 r) _ E y1.1 y2 D3 c f (h + 1) τ1 Hd1 S1 hA2 dy1 (fun k2 hk2 S2 q2 => ?_)
    obtain ⟨τ2, Hd2, dy2, b7, b2, b3, b5⟩ := mDy_go dy1 (eZ_le z2 zs.1) (Int.le_refl _) q2
    have hh := hD.2.2.2.2.2.2
    have va : S2 0 h = u_v τ2 y1.2.2 := by rw [b2.1 h (by omega), u_v_k zv.1 b5]; exact a7.2 hb1
    have vb : S2 0 (h + 1) = u_v τ2 y2.2.2 := b7.2 hb2
    obtain ⟨τ3, g1, g2, g3, g4⟩ := tw_sem h96 zs2.2.2.2 dy2.1 h4
    have e2 : h + 1 + 1 - 2 = h := by omega
    have e1 : h + 1 + 1 - 1 = h + 1 := by omega
    have ep : p + (((k_em M fs.toNat nf m (eL (M 88 f) E) (M 97 r) p).length + (k_em M fs.toNat nf m (eL (M 88 f) E) (M 98 r) (p + (k_em M fs.toNat nf m (eL (M 88 f) E) (M 97 r) p).length)).length : Nat) : Int) = p + (k_em M fs.toNat nf m (eL (M 88 f) E) (M 97 r) p).length + (k_em M fs.toNat nf m (eL (M 88 f) E) (M 98 r) (p + (k_em M fs.toNat nf m (eL (M 88 f) E) (M 97 r) p).length)).length := by omega
    rw [ep] at hC3
    refine gd_4 (op := M 96 r - 4) (by omega) dy2.2.2.2 hC3 (by omega) (fun k' hk' S' b1' b2' b3' b4' => K k' (by omega) S' ⟨τ3, Hd2, ?_, mQ_tr (mQ_tr a2 b2 (Int.le_refl _) (by omega) (Int.le_refl _)) (mK_Q (l := 16 * (c - 1) + (E.length - M 88 f)) b2' b3') (Int.le_refl _) (by omega) (Int.le_refl _), hG_tr a3 (hG_tr b3 (hG_rf b2'.2.2.2.1)), hI_q dy2.2.2.1 b2'.2.2.2.1 b2'.2.2.2.2, fun j j0 j1 => ?_, g2, ?_⟩)
    · rw [List.length_append, List.length_append, List.length_cons, List.length_nil]
      rw [e1] at b1'
      have e : p + (((k_em M fs.toNat nf m (eL (M 88 f) E) (M 97 r) p).length + (k_em M fs.toNat nf m (eL (M 88 f) E) (M 98 r) (p + (k_em M fs.toNat nf m (eL (M 88 f) E) (M 97 r) p).length)).length + (0 + 1) : Nat) : Int) = p + (k_em M fs.toNat nf m (eL (M 88 f) E) (M 97 r) p).length + (k_em M fs.toNat nf m (eL (M 88 f) E) (M 98 r) (p + (k_em M fs.toNat nf m (eL (M 88 f) E) (M 97 r) p).length)).length + 1 := by omega
      rw [e]
      exact b1'
    · have := zs.1
      have := zs2.1
      rw [g1 j j0 (by omega), b5 j j0 (by omega)]
      exact a5 j j0 j1
    · show vO Hd2 S' y.2.1 (S' 0 h) (u_v τ3 y.2.2)
      rw [e2, e1] at b4'
      rw [g4, b4', g3, va, vb]
      exact ⟨(fun q => by cases q), fun _ => rfl⟩
theorem sd_12 (ih : ∀ k', k' ≤ k → ∀ w, mOK M fs how cd pn Z nf k' L w) (h96 : M 96 r = 12) (hA : mAs M fs how cd nf (L + 1) m n w r p E s y D f) (hD : mDy M σ Hd S c f p h E s) (K : ∀ k', k' ≤ k → ∀ S', pW c f (p + (k_em M fs.toNat nf m (eL (M 88 f) E) r p).length) h (16 * (c - 1) + (E.length - M 88 f)) (s.1 0) σ Hd S y.1 (pVal w y) S' → m_G cd pn Z k' S') : m_G cd pn Z k S := by
  obtain ⟨⟨⟨t, wv, hv⟩, hm, hu⟩, ⟨hk, ha⟩, hnf, ⟨z1, z2, z3, z4, z5, z6⟩, hC, hT⟩ := hA
  obtain ⟨m, rfl⟩ : ∃ m', m = m' + 1 := ⟨m - 1, by omega⟩
  cases n with
  | zero => cases hk
  | succ n =>
    rw [k_ck_12 h96] at hk
    obtain ⟨y1, h1, h3⟩ := k_b_inv hk
    have ha1 : y1.1.1 4 = 1 := kR_ck acR h3 ha
    rw [k_em_12 h96] at hC K
    obtain ⟨hC1, hC3, hC2⟩ := m_C_app.mp hC
    try dsimp only at hC3
    rw [m_ad_o (by decide) (by decide)] at hC3
    obtain ⟨uk, ub⟩ := hu
    rw [pa_8 (by omega)] at ub
    obtain ⟨D1, D2, v1, v2, v3, D3, D4, v4, -, v6, -⟩ := ub
    have hv' : vn M L (M 97 r) (t - 1) wv ∧ vn M L (M 98 r) (t - 1) (wv - 1) := by
      obtain ⟨_, _, hc⟩ := hv
      rcases hc with c | c | c | c | c | c | c | c | c | c | c | c <;> first | exact c.2 | (exfalso; omega)
    have hA1 : mAs M fs how cd nf L m n none (M 97 r) p E s y1 D1 f := ⟨⟨⟨_, _, hv'.1⟩, by omega, v3⟩, ⟨h1, ha1⟩, nf_pt hnf (fun x hx => (v1 x hx).1) (fun x hx => by rw [nf_ck n v6 h3 x (fun z => (v2 x (v4 x z)).2 hx)]), ⟨z1, z2, z3, z4, z5, z6⟩, hC1, fun t' e => by cases e⟩
    obtain ⟨zs, zv⟩ := mAs_z hA1
    have hA2 : mAs M fs how cd nf L m n w (M 98 r) (p + (k_em M fs.toNat nf m (eL (M 88 f) E) (M 97 r) p).length + 1) E y1.1 y D3 f := ⟨⟨⟨_, _, hv'.2⟩, by omega, v6⟩, ⟨h3, ha⟩, (fun x hx => hnf x (v2 x (v4 x hx)).1.1), ⟨zs.2.2.2, eZ_le z2 zs.1, z3, z4, z5, z6⟩, hC2, fun t' e => tZ_le (hT t' e) zs.1⟩
    refine ih k (Nat.le_refl _) none m n (M 97 r) p E s y1 D1 c f h σ Hd S hA1 hD (fun k1 hk1 S1 q1 => ?_)
    obtain ⟨τ1, Hd1, dy1, a7, a2, a3, a5⟩ := mDy_go hD z2 (Int.le_refl _) q1
    have hh := hD.2.2.2.2.2.2
    refine gd_3 dy1.2.2.2 hC3 (by omega) (fun k2 hk2 S2 b1 b2 b3 => ?_)
    rw [show h + 1 - 1 = h by omega] at b1 b3
    have dy2 := mDy_K dy1 b2 b1 (eZ_24 z2 z1.1.2)
    refine ih k2 (by omega) w m n (M 98 r) _ E y1.1 y D3 c f h τ1 Hd1 S2 hA2 dy2 (fun k3 hk3 S3 q3 => ?_)
    obtain ⟨τ3, Hd3, c1, c2, c3, c4, c5, c6, c7⟩ := q3
    refine K k3 (by omega) S3 ⟨τ3, Hd3, ?_, mQ_tr a2 (mQ_tr (mK_Q (l := 16 * (c - 1) + (E.length - M 88 f)) b2 b3) c2 (Int.le_refl _) (Int.le_refl _) (Int.le_refl _)) (Int.le_refl _) (Int.le_refl _) (Int.le_refl _), hG_tr a3 (hG_tr (hG_rf b2.2.2.2.1) c3), c4, fun j j0 j1 => ?_, c6, c7⟩
    · rw [List.length_append, List.length_cons]
      have e : p + (((k_em M fs.toNat nf m (eL (M 88 f) E) (M 97 r) p).length + ((k_em M fs.toNat nf m (eL (M 88 f) E) (M 98 r) (p + (k_em M fs.toNat nf m (eL (M 88 f) E) (M 97 r) p).length + 1)).length + 1) : Nat) : Int) = p + (k_em M fs.toNat nf m (eL (M 88 f) E) (M 97 r) p).length + 1 + (k_em M fs.toNat nf m (eL (M 88 f) E) (M 98 r) (p + (k_em M fs.toNat nf m (eL (M 88 f) E) (M 97 r) p).length + 1)).length := by omega
      rw [e]
      exact c1
    · have := zs.1
      rw [c5 j j0 (by omega)]
      exact a5 j j0 j1
theorem sd_13 (ih : ∀ k', k' ≤ k → ∀ w, mOK M fs how cd pn Z nf k' L w) (h96 : M 96 r = 13) (hA : mAs M fs how cd nf (L + 1) m n w r p E s y D f) (hD : mDy M σ Hd S c f p h E s) (K : ∀ k', k' ≤ k → ∀ S', pW c f (p + (k_em M fs.toNat nf m (eL (M 88 f) E) r p).length) h (16 * (c - 1) + (E.length - M 88 f)) (s.1 0) σ Hd S y.1 (pVal w y) S' → m_G cd pn Z k' S') : m_G cd pn Z k S := by
  obtain ⟨⟨⟨t, wv, hv⟩, hm, hu⟩, ⟨hk, ha⟩, hnf, ⟨z1, z2, z3, z4, z5, z6⟩, hC, hT⟩ := hA
  obtain ⟨m, rfl⟩ : ∃ m', m = m' + 1 := ⟨m - 1, by omega⟩
  cases n with
  | zero => cases hk
  | succ n =>
    rw [k_ck_13 h96] at hk
    obtain ⟨y1, h1, h3⟩ := k_b_inv hk
    try dsimp only at h3
    by_cases l10 : (E.length : Int) - M 88 f = 10
    · rw [if_pos l10] at h3; cases h3
    rw [if_neg l10] at h3
    have ha1 : y1.1.1 4 = 1 := kR_ck acR h3 ha
    rw [k_em_13 h96] at hC K
    obtain ⟨hC1, hC3, hC2⟩ := m_C_app.mp hC
    try dsimp only at hC3
    rw [m_ad_o (by decide) (by decide)] at hC3
    have elW := eL_len z4 z5
    have elE : M 97 r :: eL (M 88 f) E = eL (M 88 f) ((M 97 r, 1 + y1.2.1, y1.2.2) :: E) := by
      show _ = if M 88 f ≤ E.length then M 97 r :: eL (M 88 f) E else []
      rw [if_pos z5]
    rw [elE] at hC2 K
    obtain ⟨uk, ub⟩ := hu
    rw [pa_13 h96] at ub
    obtain ⟨D1, D2, v1, v2, v3, D3, D4, v4, -, v6, -⟩ := ub
    have hv' : vn M L (M 98 r) (t - 1) wv ∧ vn M L (M 99 r) (t - 1) wv := by
      obtain ⟨_, _, hc⟩ := hv
      rcases hc with c | c | c | c | c | c | c | c | c | c | c | c <;> first | exact c.2.2 | (exfalso; omega)
    have hA1 : mAs M fs how cd nf L m n none (M 98 r) p E s y1 D1 f := ⟨⟨⟨_, _, hv'.1⟩, by omega, v3⟩, ⟨h1, ha1⟩, nf_pt hnf (fun x hx => (v1 x hx).1) (fun x hx => by rw [nf_ck n v6 h3 x (fun z => (v2 x (v4 x z)).2 hx)]), ⟨z1, z2, z3, z4, z5, z6⟩, hC1, fun t' e => by cases e⟩
    obtain ⟨zs, zv⟩ := mAs_z hA1
    have zv := zv rfl
    have zE : eZ (y1.1.1 0) ((M 97 r, 1 + y1.2.1, y1.2.2) :: E) := eZ_c zv.1 (eZ_le z2 zs.1)
    have hA2 : mAs M fs how cd nf L m n w (M 99 r) (p + (k_em M fs.toNat nf m (eL (M 88 f) E) (M 98 r) p).length + 1) ((M 97 r, 1 + y1.2.1, y1.2.2) :: E) y1.1 y D3 f := ⟨⟨⟨_, _, hv'.2⟩, by omega, v6⟩, ⟨h3, ha⟩, (fun x hx => hnf x (v2 x (v4 x hx)).1.1), ⟨zs.2.2.2, zE, ⟨.inl ⟨z5, by have := zv.2; dsimp only; omega⟩, z3⟩, z4, by rw [List.length_cons]; omega, by rw [List.length_cons]; omega⟩, hC2, fun t' e => tZ_le (hT t' e) zs.1⟩
    refine ih k (Nat.le_refl _) none m n (M 98 r) p E s y1 D1 c f h σ Hd S hA1 hD (fun k1 hk1 S1 q1 => ?_)
    obtain ⟨τ1, Hd1, dy1, a7, a2, a3, a5⟩ := mDy_go hD z2 (Int.le_refl _) q1
    have hh := hD.2.2.2.2.2.2
    refine gd_2 dy1.2.2.2 hC3 (by omega) (by omega) (fun k2 hk2 S2 b1 b2 b3 b4 b5 b6 b7 b8 b9 b10 => ?_)
    rw [show h + 1 - 1 = h by omega] at b1 b7
    have gg : hG Hd1 S1 Hd1 S2 := hG_rf b5
    have hl : ∀ j, j < 16 * (c - 1) + ((E.length : Int) - M 88 f) → S2 3 j = S1 3 j := fun j hj => b8 j (by omega)
    have dy2 : mDy M τ1 Hd1 S2 c f (p + (k_em M fs.toNat nf m (eL (M 88 f) E) (M 98 r) p).length + 1) h ((M 97 r, 1 + y1.2.1, y1.2.2) :: E) y1.1 := by
      refine ⟨dy1.1, ⟨fun _ => ⟨?_, ?_⟩, eO_go (v := 24) gg (fun _ _ _ => rfl) b10 (eZ_24 z2 z1.1.2) hl dy1.2.1⟩, hI_q dy1.2.2.1 b5 b6, b1⟩
      · dsimp only
        rw [show (E.length : Int) - M 88 f = ((eL (M 88 f) E).length : Int) by omega, b7, show 1 + y1.2.1 - 1 = y1.2.1 by omega]
        exact vO_go a7 gg
      · rw [show (E.length : Int) - M 88 f = ((eL (M 88 f) E).length : Int) by omega]
        exact b9
    refine ih k2 (by omega) w m n (M 99 r) _ _ y1.1 y D3 c f h τ1 Hd1 S2 hA2 dy2 (fun k3 hk3 S3 q3 => ?_)
    obtain ⟨τ3, Hd3, c1, c2, c3, c4, c5, c6, c7⟩ := q3
    refine K k3 (by omega) S3 ⟨τ3, Hd3, ?_, mQ_tr a2 (mQ_tr ⟨fun j hj => b2 j (by omega), fun j _ => by rw [b3], b4, hl, b10⟩ c2 (Int.le_refl _) (Int.le_refl _) (by rw [List.length_cons]; omega)) (Int.le_refl _) (Int.le_refl _) (Int.le_refl _), hG_tr a3 (hG_tr gg c3), c4, fun j j0 j1 => ?_, c6, c7⟩
    · rw [List.length_append, List.length_cons]
      have e : p + (((k_em M fs.toNat nf m (eL (M 88 f) E) (M 98 r) p).length + ((k_em M fs.toNat nf m (eL (M 88 f) ((M 97 r, 1 + y1.2.1, y1.2.2) :: E)) (M 99 r) (p + (k_em M fs.toNat nf m (eL (M 88 f) E) (M 98 r) p).length + 1)).length + 1) : Nat) : Int) = p + (k_em M fs.toNat nf m (eL (M 88 f) E) (M 98 r) p).length + 1 + (k_em M fs.toNat nf m (eL (M 88 f) ((M 97 r, 1 + y1.2.1, y1.2.2) :: E)) (M 99 r) (p + (k_em M fs.toNat nf m (eL (M 88 f) E) (M 98 r) p).length + 1)).length := by omega
      rw [e]
      exact c1
    · have := zs.1
      rw [c5 j j0 (by omega)]
      exact a5 j j0 j1
end

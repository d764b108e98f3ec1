/-! RUNS AS IT SHOULD: if -/
section
variable {M : Nat → Int → Int} {fs how : Int} {cd : Int → Int → Option (Int × Int)} {pn : Int → Int} {Z : m_T → Prop} {nf : Int → Int} {k L m n : Nat} {w : Option k_h} {r p : Int} {E : k_E} {s : k_s} {y : k_v} {D : Int → Prop} {c f h : Int} {σ : Int → Int} {Hd : Int → Prop} {S : m_T}
/-- a way of an if was gone: what comes out of both -/
theorem ie_sem {pl pe : Int} {b1 : k_s} {z q y : k_v} {v : k_v} {τ : Int → Int} {Hd1 : Int → Prop} {S1 : m_T} {x : Int} (hz : zS b1 z.1) (hq : zS b1 q.1) (hs : sZ b1) (hzb : w = none → z.2.1 = 0 ∨ z.2.1 = 1) (h12 : k_ie w pl pe (b1.1 0) (b1.1 1) z q = .inr y) (hv : v = z ∨ v = q) (hI' : hI Hd1 S1) (hf : fO τ b1) (val : pVal w v Hd1 S1 τ x) : ∃ τ', (∀ k, 0 ≤ k → k < b1.1 0 → τ' k = τ k) ∧ fO τ' y.1 ∧ pVal w y Hd1 S1 τ' x := by
  obtain ⟨j1, j2, j3⟩ := zS_bk hq hs
  have hf2 : fO τ (k_bk (b1.1 0) (b1.1 1) q.1) := fO_zS hs hf (fun _ _ _ => rfl) j3 (fun j hj => j1.2.2.1 j hj)
  cases w with
  | some t =>
    cases h12
    exact ⟨τ, fun _ _ _ => rfl, hf2, val⟩
  | none =>
    have hb := hzb rfl
    have hvv : vO Hd1 S1 v.2.1 x (u_v τ v.2.2) := val
    have h12 : k_jn pl pe (b1.1 0) z.2.1 z.2.2 q.2.1 q.2.2 (k_bk (b1.1 0) (b1.1 1) q.1) = .inr y := h12
    have ebb : z.2.1 = q.2.1 := by
      have h13 := h12
      unfold k_jn at h13
      split at h13
      · cases h13
      · rename_i c
        exact Decidable.byContradiction c
    have evb : v.2.1 = z.2.1 := by
      rcases hv with rfl | rfl
      · rfl
      · exact ebb.symm
    obtain ⟨e, τ', g1, g2, g3, g4⟩ := jn_sem (X := u_v τ v.2.2) (τ := τ) j1.2.2.2 hf2 (by rcases hv with rfl | rfl; exact .inl rfl; exact .inr rfl) (fun q1 => by
      have o := hvv.1 (evb.trans q1)
      rw [← o.2]
      exact (hI_r hI' o.1).2.2.1) hb h12
    refine ⟨τ', fun j j0 j1' => g1 j j0 (by omega), g2, ?_⟩
    show vO Hd1 S1 y.2.1 x (u_v τ' y.2.2)
    rw [g4, g3, ← evb]
    exact hvv
theorem sd_14 (ih : ∀ k', k' ≤ k → ∀ w, mOK M fs how cd pn Z nf k' L w) (h96 : M 96 r = 14) (hA : mAs M fs how cd nf (L + 1) m n w r p E s y D f) (hD : mDy M σ Hd S c f p h E s) (K : ∀ k', k' ≤ k → ∀ S', pW c f (p + (k_em M fs.toNat nf m (eL (M 88 f) E) r p).length) h (16 * (c - 1) + (E.length - M 88 f)) (s.1 0) σ Hd S y.1 (pVal w y) S' → m_G cd pn Z k' S') : m_G cd pn Z k S := by
  obtain ⟨⟨⟨t, wv, hv⟩, hm, hu⟩, ⟨hk, ha⟩, hnf, ⟨z1, z2, z3, z4, z5, z6⟩, hC, hT⟩ := hA
  obtain ⟨m, rfl⟩ : ∃ m', m = m' + 1 := ⟨m - 1, by omega⟩
  cases n with
  | zero => cases hk
  | succ n =>
    rw [k_ck_if h96] at hk
    obtain ⟨a, h1, h2⟩ := k_b_inv hk
    obtain ⟨b, h3, h4⟩ := k_b_inv h2
    unfold k_i3 at h4
    obtain ⟨s1, h5, h6⟩ := k_b_inv h4
    obtain ⟨z, h7, h8⟩ := k_b_inv h6
    unfold k_i4 at h8
    obtain ⟨s2, h9, h10⟩ := k_b_inv h8
    obtain ⟨q, h11, h12⟩ := k_b_inv h10
    obtain ⟨h1, hb1⟩ := kM_nm h1
    obtain ⟨h3, hb2⟩ := kM_nm h3
    have haq : q.1.1 4 = 1 := by
      cases w with
      | some t' => cases h12; exact acR.2.2.2.2.2.2 _ _ _ ha
      | none => exact acR.2.2.2.2.2.2 _ _ _ (kR_jn acR h12 ha)
    have ha2 : s2.1 4 = 1 := kR_ck acR h11 haq
    have haz : z.1.1 4 = 1 := acR.2.2.2.2.2.2 _ _ _ (kR_no acR h9 ha2)
    have has1 : s1.1 4 = 1 := kR_ck acR h7 haz
    have hab : b.1.1 4 = 1 := kR_afs acR h5 has1
    have haa : a.1.1 4 = 1 := kR_ck acR h3 hab
    obtain ⟨uk, ub⟩ := hu
    rw [pa_14 h96] at ub
    obtain ⟨D1, D2, v1, v2, v3, D3, D4, v4, v5, v6, D5, D6, v7, v8, v9, D7, D8, v10, v11, v12, -⟩ := ub
    have hv' : (0 ≤ M 97 r ∧ M 97 r ≤ 4) ∧ vn M L (M 98 r) (t - 1) wv ∧ vn M L (M 99 r) (t - 1) (wv - 1) ∧ vn M L (M 100 r) (t - 1) (wv - 2) ∧ vn M L (M 101 r) (t - 1) (wv - 3) := by
      obtain ⟨_, _, hc⟩ := hv
      rcases hc with c | c | c | c | c | c | c | c | c | c | c | c <;> first | exact c.2 | (exfalso; omega)
    obtain ⟨hr4, va, vb, vc, vd'⟩ := hv'
    -- marks
    have nq : ∀ x, y.1.2.2.2 x = q.1.2.2.2 x := fun x => by
      cases w with
      | some t' => cases h12; rfl
      | none => rw [nf_jn h12]; rfl
    have nz : ∀ x, ¬ D7 x → y.1.2.2.2 x = z.1.2.2.2 x := fun x hx => by rw [nq x, nf_ck n v12 h11 x hx, nf_no h9]; rfl
    have nb : ∀ x, ¬ D7 x → ¬ D5 x → y.1.2.2.2 x = b.1.2.2.2 x := fun x hx hy => by rw [nz x hx, nf_ck n v9 h7 x hy, nf_afs h5]
    have na : ∀ x, ¬ D7 x → ¬ D5 x → ¬ D3 x → y.1.2.2.2 x = a.1.2.2.2 x := fun x hx hy hw => by rw [nb x hx hy, nf_ck n v6 h3 x hw]
    -- code
    rw [k_em_14 h96] at hC K
    unfold e_if at hC K
    generalize eA : k_em M fs.toNat nf m (eL (M 88 f) E) (M 98 r) p = cA at hC K
    generalize eB : k_em M fs.toNat nf m (eL (M 88 f) E) (M 99 r) (p + cA.length) = cB at hC K
    generalize eC : k_em M fs.toNat nf m (eL (M 88 f) E) (M 100 r) (p + cA.length + cB.length + 1) = cC at hC K
    generalize eDd : k_em M fs.toNat nf m (eL (M 88 f) E) (M 101 r) (p + cA.length + cB.length + 2 + cC.length) = cD at hC K
    obtain ⟨hC, hCD⟩ := m_C_app.mp hC
    obtain ⟨hC, hC6, -⟩ := m_C_app.mp hC
    obtain ⟨hC, hCC⟩ := m_C_app.mp hC
    obtain ⟨hC, hC7, -⟩ := m_C_app.mp hC
    obtain ⟨hCA, hCB⟩ := m_C_app.mp hC
    try dsimp only at hC6 hC7
    rw [m_ad_o (by decide) (by decide)] at hC6
    rw [m_ad_o (by omega) (by omega)] at hC7
    simp only [List.length_append, List.length_cons, List.length_nil] at hCD hC6 hCC hC7 K
    have p7 : p + ((cA.length + cB.length : Nat) : Int) = p + cA.length + cB.length := by omega
    have pC : p + ((cA.length + cB.length + (0 + 1) : Nat) : Int) = p + cA.length + cB.length + 1 := by omega
    have p6 : p + ((cA.length + cB.length + (0 + 1) + cC.length : Nat) : Int) = p + cA.length + cB.length + 1 + cC.length := by omega
    have pD : p + ((cA.length + cB.length + (0 + 1) + cC.length + (0 + 1) : Nat) : Int) = p + cA.length + cB.length + 2 + cC.length := by omega
    have pE : p + ((cA.length + cB.length + (0 + 1) + cC.length + (0 + 1) + cD.length : Nat) : Int) = p + cA.length + cB.length + 2 + cC.length + cD.length := by omega
    rw [p7] at hC7
    rw [pC] at hCC
    rw [p6] at hC6
    rw [pD] at hCD
    rw [pE] at K
    have hA1 : mAs M fs how cd nf L m n none (M 98 r) p E s a D1 f := ⟨⟨⟨_, _, va⟩, by omega, v3⟩, ⟨h1, haa⟩, nf_pt hnf (fun x hx => (v1 x hx).1) (fun x hx => na x (fun u => (v2 x (v5 x (v8 x (v10 x u)).1).1).2 hx) (fun u => (v2 x (v5 x (v7 x u)).1).2 hx) (fun u => (v2 x (v4 x u)).2 hx)), ⟨z1, z2, z3, z4, z5, z6⟩, by rw [eA]; exact hCA, fun t' e => by cases e⟩
    obtain ⟨zs, zv⟩ := mAs_z hA1
    have zv := zv rfl
    have hA2 : mAs M fs how cd nf L m n none (M 99 r) (p + cA.length) E a.1 b D3 f := ⟨⟨⟨_, _, vb⟩, by omega, v6⟩, ⟨h3, hab⟩, nf_pt hnf (fun x hx => (v2 x (v4 x hx)).1.1) (fun x hx => nb x (fun u => (v5 x (v8 x (v10 x u)).1).2 hx) (fun u => (v5 x (v7 x u)).2 hx)), ⟨zs.2.2.2, eZ_le z2 zs.1, z3, z4, z5, z6⟩, by rw [eB]; exact hCB, fun t' e => by cases e⟩
    obtain ⟨zs2, zv2⟩ := mAs_z hA2
    have zv2 := zv2 rfl
    have zE2 := eZ_le (eZ_le z2 zs.1) zs2.1
    have gg : u_z (b.1.1 0) (k_p b.2.2 a.2.2 (-1)) := u_z_p zv2.1 (u_z_le zv.1 zs2.1)
    obtain ⟨d1, d2⟩ := zS_afs zs2.2.2.2 (u_z_pd gg) h5
    have hA3 : mAs M fs how cd nf L m n w (M 100 r) (p + cA.length + cB.length + 1) E s1 z D5 f := ⟨⟨⟨_, _, vc⟩, by omega, v9⟩, ⟨h7, haz⟩, nf_pt hnf (fun x hx => (v2 x (v5 x (v7 x hx)).1).1.1) (fun x hx => nz x (fun u => (v8 x (v10 x u)).2 hx)), ⟨d1.2.2.2, by rw [d2]; exact zE2, z3, z4, z5, z6⟩, by rw [eC]; exact hCC, fun t' e => by rw [d2]; exact tZ_le (hT t' e) (Int.le_trans zs.1 zs2.1)⟩
    obtain ⟨zs3, zv3⟩ := mAs_z hA3
    have zbz := zS_tr d1 zs3
    obtain ⟨f1, f2, f3⟩ := zS_bk zbz zs2.2.2.2
    obtain ⟨g1, g2⟩ := zS_no f1.2.2.2 (by rw [f2]; exact gg) h9
    have hA4 : mAs M fs how cd nf L m n w (M 101 r) (p + cA.length + cB.length + 2 + cC.length) E s2 q D7 f := ⟨⟨⟨_, _, vd'⟩, by omega, v12⟩, ⟨h11, haq⟩, fun x hx => by rw [hnf x (v2 x (v5 x (v8 x (v10 x hx)).1).1).1.1, nq x], ⟨g1.2.2.2, by rw [g2, f2]; exact zE2, z3, z4, z5, z6⟩, by rw [eDd]; exact hCD, fun t' e => by rw [g2, f2]; exact tZ_le (hT t' e) (Int.le_trans zs.1 zs2.1)⟩
    obtain ⟨zs4, -⟩ := mAs_z hA4
    have zbq := zS_tr f1 (zS_tr g1 zs4)
    have hh := hD.2.2.2.2.2.2
    refine ih k (Nat.le_refl _) none m n (M 98 r) p E s a D1 c f h σ Hd S hA1 hD (fun k1 hk1 S1 q1 => ?_)
    rw [eA] at q1
    obtain ⟨τ1, Hd1, dy1, a7, a2, a3, a5⟩ := mDy_go hD z2 (Int.le_refl _) q1
    refine ih k1 (by omega) none m n (M 99 r) _ E a.1 b D3 c f (h + 1) τ1 Hd1 S1 hA2 dy1 (fun k2 hk2 S2 q2 => ?_)
    rw [eB] at q2
    obtain ⟨τ2, Hd2, dy2, b7, b2, b3, b5⟩ := mDy_go dy1 (eZ_le z2 zs.1) (Int.le_refl _) q2
    have vA : S2 0 h = u_v τ2 a.2.2 := by rw [b2.1 h (by omega), u_v_k zv.1 b5]; exact a7.2 hb1
    have vB : S2 0 (h + 1) = u_v τ2 b.2.2 := b7.2 hb2
    have gap : u_v τ2 (k_p b.2.2 a.2.2 (-1)) = S2 0 (h + 1) - S2 0 h := by rw [u_v_p, vA, vB]; omega
    have m2 := mQ_tr a2 b2 (Int.le_refl _) (by omega) (Int.le_refl _)
    have g2' := hG_tr a3 b3
    have e2 : h + 1 + 1 - 2 = h := by omega
    have e1 : h + 1 + 1 - 1 = h + 1 := by omega
    refine gd_17 hr4 dy2.2.2.2 hC7 (by omega) (fun k3 hk3 S3 c1 c2 c3 => ?_)
    rw [e2, e1] at c1
    rw [e2] at c3
    -- the end
    have fin : ∀ (k4 : Nat) (S4 : m_T) (τ4 : Int → Int) (Hd4 : Int → Prop) (v : k_v), k4 ≤ k → v = z ∨ v = q → mV S4 c f (p + cA.length + cB.length + 2 + cC.length + cD.length) (h + 1) → mQ c h (16 * (c - 1) + (E.length - M 88 f)) S3 S4 → hG Hd2 S3 Hd4 S4 → hI Hd4 S4 → (∀ j, 0 ≤ j → j < b.1.1 0 → τ4 j = τ2 j) → pVal w v Hd4 S4 τ4 (S4 0 h) → m_G cd pn Z k4 S4 := fun k4 S4 τ4 Hd4 v hk4 hvv x1 x2 x3 x4 x5 x6 => by
      have fb : fO τ4 b.1 := fO_zS zs2.2.2.2 dy2.1 x5 rfl (fun _ _ => rfl)
      obtain ⟨τ5, y1, y2, y3⟩ := ie_sem (w := w) zbz zbq zs2.2.2.2 (fun e => (zv3 e).2) h12 hvv x4 fb x6
      exact K k4 hk4 S4 ⟨τ5, Hd4, x1, mQ_tr m2 (mQ_tr (mK_Q (l := 16 * (c - 1) + (E.length - M 88 f)) c2 c3) x2 (Int.le_refl _) (Int.le_refl _) (Int.le_refl _)) (Int.le_refl _) (Int.le_refl _) (Int.le_refl _), hG_tr g2' (hG_tr (hG_rf c2.2.2.2.1) x3), x4, fun j j0 j1 => by
        have := zs.1
        have := zs2.1
        rw [y1 j j0 (by omega), x5 j j0 (by omega), b5 j j0 (by omega)]
        exact a5 j j0 j1, y2, y3⟩
    by_cases hb : m_hb (M 97 r) (S2 0 h) (S2 0 (h + 1)) = true
    · rw [if_pos hb] at c1
      have fact : fO τ2 s1 := fO_afs zs2.2.2.2 (u_z_pd gg) h5 dy2.1 (u_pd.mpr (by rw [gap]; exact hb_t hr4 hb))
      have dy3 := mDy_K dy2 c2 c1 (eZ_24 z2 z1.1.2)
      have dy3' : mDy M τ2 Hd2 S3 c f (p + cA.length + cB.length + 1) h E s1 := ⟨fact, dy3.2⟩
      refine ih k3 (by omega) w m n (M 100 r) _ E s1 z D5 c f h τ2 Hd2 S3 hA3 dy3' (fun k4 hk4 S4 q4 => ?_)
      rw [eC] at q4
      obtain ⟨τ4, Hd4, x1, x2, x3, x4, x5, x6, x7⟩ := q4
      refine gd_16 x1 hC6 (fun k5 hk5 S5 y1 y2 y3 => ?_)
      refine fin k5 S5 τ4 Hd4 z (by omega) (.inl rfl) y1 (mQ_tr x2 (mK_Q (l := 16 * (c - 1) + (E.length - M 88 f)) y2 (fun j _ => by rw [y3])) (Int.le_refl _) (Int.le_refl _) (Int.le_refl _)) (hG_tr x3 (hG_rf y2.2.2.2.1)) (hI_q x4 y2.2.2.2.1 y2.2.2.2.2) (fun j j0 j1 => x5 j j0 (by omega)) ?_
      rw [y3]
      cases w with
      | none => exact vO_go x7 (hG_rf y2.2.2.2.1)
      | some t' =>
        refine ⟨fun e => ?_, x7.2⟩
        have := x7.1 e
        rw [y2.2.2.2.1]
        exact this
    · rw [if_neg hb] at c1
      have f0 : fO τ2 (k_bk (b.1.1 0) (b.1.1 1) z.1) := fO_zS zs2.2.2.2 dy2.1 (fun _ _ _ => rfl) f3 (fun j hj => f1.2.2.1 j hj)
      have fact : fO τ2 s2 := by
        unfold k_no at h9
        split at h9
        · cases h9; exact f0
        · rename_i r2
          exact fO_afs f1.2.2.2 (by rw [f2]; exact u_z_pd gg) h9 f0 (u_pd.mpr (by rw [gap]; exact hb_f hr4 r2 hb))
      have dy3 := mDy_K dy2 c2 c1 (eZ_24 z2 z1.1.2)
      have dy3' : mDy M τ2 Hd2 S3 c f (p + cA.length + cB.length + 2 + cC.length) h E s2 := ⟨fact, dy3.2⟩
      refine ih k3 (by omega) w m n (M 101 r) _ E s2 q D7 c f h τ2 Hd2 S3 hA4 dy3' (fun k4 hk4 S4 q4 => ?_)
      rw [eDd] at q4
      obtain ⟨τ4, Hd4, x1, x2, x3, x4, x5, x6, x7⟩ := q4
      exact fin k4 S4 τ4 Hd4 q (by omega) (.inr rfl) x1 x2 x3 x4 (fun j j0 j1 => x5 j j0 (by omega)) x7
end

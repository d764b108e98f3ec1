/-! THE REFERENCE READS BY THE GRAMMAR: a part -/
section
variable {ρ : Nat → Option xk} {e sl d : Nat} {M : Nat → Int → Int} {R : Nat → Int → Option Nat} {eX : Nat → Nat × (Nat → Int32)} {Q : xK}
variable {tk : Int → t_t} {c p z k dp : Int} {prev : g_T} {o : g_o} {M1 : Nat → Int → Int} {T : Int → Int}
theorem qP_54 (H : qH eX tk c prev dp 4 d Q ρ e M R sl k p z o M1) (h : xm_call tb_P eX tb_K0 174 (d + 12) 54 [.inr (.inr (some 82)), .inl k] (ρ, e, M1, R, sl) (fun o s' => o = .inl none ∧ xm_J tb_P eX tb_K0 174 (d + 13) 45 Q 11 [(0, .inr (.inr (some 82)))] [] s')) : xm_J tb_P eX tb_K0 174 (d + 13) 45 Q 11 [(0, .inr (.inr (some 82)))] [] (ρ, e, M1, R, sl) := by
  obtain ⟨hM, -⟩ := qH_M H
  obtain ⟨⟨hS, hE, hz⟩, -, hd, ⟨-, -, -, k0, k1⟩, -, -⟩ := H
  exact qM_45 (w := 4) hE (by decide) (by omega) hM (q_53a (d := d + 11) hE (by omega) hM.2.1.2.2.1 (xm_call_mono (Nat.le_refl _) (fun o s' hq => ⟨hq.1, rfl, hq.2⟩) h))
theorem qP_55 (H : qH eX tk c prev dp 4 d Q ρ e M R sl k p z o M1) (ht : (tk p).1 = 3) (h : xm_call tb_P eX tb_K0 174 (d + 11) 55 [.inr (.inr (some 82)), .inl k] (ρ, e, x_up (x_up M1 123 k (tk p).2.2.2.2) 81 6 (p + 1), R, sl) (fun o s' => o = .inl none ∧ xm_J tb_P eX tb_K0 174 (d + 13) 45 Q 11 [(0, .inr (.inr (some 82)))] [] s')) : xm_J tb_P eX tb_K0 174 (d + 13) 45 Q 11 [(0, .inr (.inr (some 82)))] [] (ρ, e, M1, R, sl) := by
  obtain ⟨hM, -⟩ := qH_M H
  have H' := H
  obtain ⟨⟨hS, hE, hz⟩, -, hd, ⟨-, -, -, k0, k1⟩, -, -⟩ := H
  exact qP_54 H' (q_54e (d := d + 9) hE hS hM.1 (by omega) ht (xm_call_mono (Nat.le_refl _) (fun o s' hq => ⟨hq.1, rfl, hq.2⟩) h))
theorem qP_n (H : qH eX tk c prev dp 4 d Q ρ e M R sl k p z o M1) (ht : (tk p).1 = 3) : qM tk c k 4 0 dp (tk p).2.1 (p + 1) 0 0 M (x_up (x_up M1 123 k (tk p).2.2.2.2) 81 6 (p + 1)) ∧ x_up (x_up M1 123 k (tk p).2.2.2.2) 81 6 (p + 1) 123 k = (tk p).2.2.2.2 ∧ p < c := by
  obtain ⟨hM, -⟩ := qH_M H
  obtain ⟨⟨hS, hE, hz⟩, -, hd, ⟨-, -, -, k0, k1⟩, -, -⟩ := H
  have hlt : p < c := qT_lt hS hM.1 (by rw [ht]; decide)
  have a1 := qM_J (st' := 0) hM (qT_nx (qT_c (q := 123) (k := k) (v := (tk p).2.2.2.2) hM.1 (by omega)) hlt).1 (qJ_tr (qJ_u (by omega)) qJ_6) (by rw [x_up_p (by decide), x_up_p (by decide)]) (by rw [x_up_p (by decide), x_up_p (by decide)]) (by rw [x_up_p (by decide), x_up_p (by decide)]) (by rw [x_up_p (by decide), x_up_p (by decide)]; exact hM.2.1.2.2.1)
  exact ⟨a1, by rw [x_up_p (by decide), x_up_s rfl], hlt⟩
-- a number
theorem c_num (H : qH eX tk c prev dp 4 d Q ρ e M R sl k p z o M1) (ht : (tk p).1 = 4) (ho : o = .inr (p + 1, z + 1, t_u (t_ad T z 1 (tk p).2.1) (z * 9 + 4) (tk p).2.2.1, z)) : xm_J tb_P eX tb_K0 174 (d + 13) 45 Q 11 [(0, .inr (.inr (some 82)))] [] (ρ, e, M1, R, sl) := by
  subst ho
  obtain ⟨hM, -⟩ := qH_M H
  have H' := H
  obtain ⟨⟨hS, hE, hz⟩, ⟨hL, hG⟩, hd, ⟨hT, hB, hk, k0, k1⟩, hO, hE1⟩ := H
  have hp := qT_p hT
  have hb := hB.2.1
  have n1 : M1 81 21 = M 81 21 := hE1.2.2.2.1 21 (by decide)
  obtain ⟨u1, u2, u3, u4⟩ := z_nv hS ⟨hp.1, hp.2.1⟩ ht
  refine qP_54 H' (q_54a (d := d + 10) hE hS hM.1 hM.2.1.1 (by omega) hM.2.1.2.2.2.1 hM.2.1.2.2.2.2 n1 (by omega) ht (fun M2 M' g1 g2 g3 => ⟨rfl, ?_⟩))
  have n2 : M2 81 21 = M 81 21 := (g2.2 21 (by decide)).trans n1
  have hR := qR_tr (qR_tr hM.2.2 (qR_P g2)) (qR_F (l := k) n2 g3)
  refine qO_r hO (qT_F g1 g3) g3.1.1 g3.1.2.1 hR (by omega) (by omega) (e_n_fo ⟨⟨by omega, by rw [g3.1.2.2]; omega, by have := hR.1.2.1 10 (by decide) (by decide) (by decide) (by decide) (by decide) (by decide) (by decide) (by decide) (by decide) (by decide) (by decide); omega⟩, ?_, .inl ⟨g3.2.1.1, ?_, ?_, ?_, ?_⟩⟩)
  · rw [g3.2.1.2.2.2.2.2.2.1, t_u_o (by omega), t_ad_1 rfl]
  · rw [t_u_o (by omega), t_ad_0 rfl]
  · rw [g3.2.1.2.1, t_u_s rfl]; omega
  · rw [g3.2.1.2.1]; omega
  · rw [g3.2.1.2.1]; omega
-- the length of a name
theorem c_len (H : qH eX tk c prev dp 4 d Q ρ e M R sl k p z o M1) (ht : z_W (tk p) 12462) (h : g_len tk p z T o) : xm_J tb_P eX tb_K0 174 (d + 13) 45 Q 11 [(0, .inr (.inr (some 82)))] [] (ρ, e, M1, R, sl) := by
  obtain ⟨hM, -⟩ := qH_M H
  have H' := H
  obtain ⟨⟨hS, hE, hz⟩, ⟨hL, hG⟩, hd, ⟨hT, hB, hk, k0, k1⟩, hO, hE1⟩ := H
  have hp := qT_p hT
  have hb := hB.2.1
  have n1 : M1 81 21 = M 81 21 := hE1.2.2.2.1 21 (by decide)
  have hlt : p < c := z_W_lt hS ⟨hp.1, hp.2.1⟩ ht
  rcases h with ⟨h1, rfl⟩ | ⟨h1, rfl⟩
  · refine qP_54 H' (q_54b (d := d + 8) hE hS hM.1 hM.2.1.1 (by omega) hM.2.1.2.2.2.1 hM.2.1.2.2.2.2 n1 (by omega) ht h1 (fun M2 M' g1 g2 g3 => ⟨rfl, ?_⟩))
    have n2 : M2 81 21 = M 81 21 := (g2.2 21 (by decide)).trans n1
    have hR := qR_tr (qR_tr hM.2.2 (qR_P g2)) (qR_F (l := k) n2 g3)
    refine qO_r hO (qT_F g1 g3) g3.1.1 g3.1.2.1 hR (by omega) (by omega) (e_n_fo ⟨⟨by omega, by rw [g3.1.2.2]; omega, by have := hR.1.2.1 10 (by decide) (by decide) (by decide) (by decide) (by decide) (by decide) (by decide) (by decide) (by decide) (by decide) (by decide); omega⟩, ?_, .inr (.inr (.inr (.inr (.inr (.inl ⟨g3.2.1.1, ?_, ?_, ?_⟩)))))⟩)
    · rw [g3.2.1.2.2.2.2.2.2.1, t_u_o (by omega), t_u_o (by omega), t_ad_1 rfl]
    · rw [t_u_o (by omega), t_u_o (by omega), t_ad_0 rfl]
    · rw [g3.2.1.2.1, t_u_s rfl]; exact z_ww (hS.2.2.1 (p + 1) (by omega) (by omega)) h1
    · rw [g3.2.1.2.2.1, t_u_o (by omega), t_u_s rfl]
  · exact qP_54 H' (q_54bn (d := d + 8) hE hS hM.1 hM.2.1.1 (by omega) hM.2.1.2.2.2.1 hM.2.1.2.2.2.2 n1 (by omega) ht h1 (fun M' w1 w2 w3 => ⟨rfl, qO_w hO w1 w2 (qGn_tr hM.2.2.1 w3)⟩))
-- a word before a part
theorem c_word (H : qH eX tk c prev dp 4 d Q ρ e M R sl k p z o M1) {vv s : Int} (ht : (z_W (tk p) 14519 ∧ vv = 6) ∨ (z_W (tk p) 16052 ∧ vv = 7)) (hs : s = vv + 1) (h : g_b (prev 4 (p + 1) (z + 1) (t_ad T z s (tk p).2.1)) (fun p1 z1 T1 v o => o = .inr (p1, z1, t_u T1 (z * 9 + 5) v, z)) o) : xm_J tb_P eX tb_K0 174 (d + 13) 45 Q 11 [(0, .inr (.inr (some 82)))] [] (ρ, e, M1, R, sl) := by
  obtain ⟨hM, -⟩ := qH_M H
  have H' := H
  obtain ⟨⟨hS, hE, hz⟩, ⟨hL, hG⟩, hd, ⟨hT, hB, hk, k0, k1⟩, hO, hE1⟩ := H
  have hp := qT_p hT
  have hb := hB.2.1
  have n1 : M1 81 21 = M 81 21 := hE1.2.2.2.1 21 (by decide)
  have hlt : p < c := by
    rcases ht with ht | ht
    · exact z_W_lt hS ⟨hp.1, hp.2.1⟩ ht.1
    · exact z_W_lt hS ⟨hp.1, hp.2.1⟩ ht.1
  have hv : vv = 6 ∨ vv = 7 := by rcases ht with ht | ht; exact .inl ht.2; exact .inr ht.2
  refine qP_54 H' (q_54c (d := d + 9) hE hS hM.1 hM.2.1.1 (by omega) hM.2.1.2.2.2.1 (by omega) ht (fun N hN M' g1 g2 => ⟨rfl, ?_⟩))
  obtain ⟨j1, j2, j3, j4, j5, j6, j7, j8⟩ := qJ_c (k := k) (s := 1) (v := vv) hM.1 hlt N hN
  have hMN := qM_J hM j1 j2 (by rw [j5]) (by rw [j6]) (by rw [j7]) j3
  have hBN : qBn c N (p + 1) := qBn_R hB hMN.2.2 (by omega) (by omega)
  rcases h with ⟨a, h1, rfl⟩ | ⟨p1, z1, T1, v, h1, h2⟩
  · exact hL 4 (p + 1) (z + 1) _ _ (by decide) (by omega) h1 d ρ e N R sl Q (k + 1) hMN.1 hBN hMN.2.1.1 (by omega) (by omega) (fun M2 w1 w2 w3 => qO_w hO w1 w2 (qGn_tr hMN.2.2.1 w3)) M' g1 g2
  have q0 := hG 4 (p + 1) (z + 1) _ _ (by decide) (by omega) (by omega) (by omega) h1
  obtain ⟨q1, q2, q3, q4, q5, q6, q7, q8, q9⟩ := q0
  refine hL 4 (p + 1) (z + 1) _ _ (by decide) (by omega) h1 d ρ e N R sl Q (k + 1) hMN.1 hBN hMN.2.1.1 (by omega) (by omega) (fun M2 r hT2 hk2 hr2 hG2 hF2 hD2 hn2 => ?_) M' g1 g2
  have hM2 := qM_b hMN hT2 hk2 hG2 hF2 hD2
  have hR2 := hM2.2.2
  have hB2 := qBn_R hB hR2 (p' := p1) (by omega) (by omega)
  have hb2 := hB2.2.1
  subst h2
  have v2 : M2 123 k = vv := by rw [hF2.1 123 k (by omega) (by omega) (by omega)]; exact j4
  refine qM_45 (w := 4) hE (by decide) (by omega) hM2 (q_53b (d := d + 11) hE hM2.2.1.1 (by omega) hM2.2.1.2.2.1 v2 hr2 hM2.2.1.2.2.2.2 rfl (by omega) (fun M3 g3 => ⟨rfl, ?_⟩))
  have hR3 := qR_tr hR2 (qR_F (l := k) rfl g3)
  have ec : e_c (e_n M3 (t_u T1 (z * 9 + 5) v)) (e_D z z1 z) (M2 81 21) r v := e_cc (qGn_F rfl g3) hn2 ⟨q5, q6⟩ (by omega) (fun j a b _ _ => t_u_o (by omega)) (fun x a b => ⟨⟨by omega, by omega⟩, by omega⟩) (Int.le_refl _)
  refine qO_r hO (qT_F hT2 g3) g3.1.1 g3.1.2.1 hR3 (by omega) (by omega) (e_n_fo ⟨⟨by omega, by rw [g3.1.2.2]; omega, by have := hR3.1.2.1 10 (by decide) (by decide) (by decide) (by decide) (by decide) (by decide) (by decide) (by decide) (by decide) (by decide) (by decide); have := hR2.1.2.1 10 (by decide) (by decide) (by decide) (by decide) (by decide) (by decide) (by decide) (by decide) (by decide) (by decide) (by decide); omega⟩, ?_, ?_⟩)
  · rw [g3.2.1.2.2.2.2.2.2.1, t_u_o (by omega), q7 _ (by omega), t_ad_1 rfl]
  · rw [g3.2.1.1, g3.2.1.2.1, t_u_s rfl, t_u_o (by omega), q7 _ (by omega), t_ad_0 rfl]
    rcases hv with rfl | rfl
    · exact .inr (.inr (.inr (.inr (.inr (.inr (.inl ⟨rfl, by omega, ec⟩))))))
    · exact .inr (.inr (.inr (.inr (.inr (.inr (.inr (.inl ⟨rfl, by omega, ec⟩)))))))
-- ( .. )
theorem c_par (H : qH eX tk c prev dp 4 d Q ρ e M R sl k p z o M1) (ht : z_M (tk p) 40) (h : g_paren tk prev p z T o) : xm_J tb_P eX tb_K0 174 (d + 13) 45 Q 11 [(0, .inr (.inr (some 82)))] [] (ρ, e, M1, R, sl) := by
  obtain ⟨hM, -⟩ := qH_M H
  have H' := H
  obtain ⟨⟨hS, hE, hz⟩, ⟨hL, hG⟩, hd, ⟨hT, hB, hk, k0, k1⟩, hO, hE1⟩ := H
  have hp := qT_p hT
  have hb := hB.2.1
  have n1 : M1 81 21 = M 81 21 := hE1.2.2.2.1 21 (by decide)
  have hlt : p < c := z_M_lt hS ⟨hp.1, hp.2.1⟩ ht
  refine qP_54 H' (q_54d (d := d + 9) hE hS hM.1 hM.2.1.1 (by omega) hM.2.1.2.2.2.1 (by omega) ht (fun N hN M' g1 g2 => ⟨rfl, ?_⟩))
  obtain ⟨j1, j2, j3, j4, j5, j6, j7, j8⟩ := qJ_p (k := k) (s := 2) hM.1 hlt N hN
  have hMN := qM_J hM j1 j2 (by rw [j5]) (by rw [j6]) (by rw [j7]) j3
  have hBN : qBn c N (p + 1) := qBn_R hB hMN.2.2 (by omega) (by omega)
  rcases h with ⟨a, h1, rfl⟩ | ⟨p1, z1, T1, v, h1, h2⟩
  · exact hL 0 (p + 1) (z + 1) _ _ (by decide) (by omega) h1 d ρ e N R sl Q (k + 1) hMN.1 hBN hMN.2.1.1 (by omega) (by omega) (fun M2 w1 w2 w3 => qO_w hO w1 w2 (qGn_tr hMN.2.2.1 w3)) M' g1 g2
  have q0 := hG 0 (p + 1) (z + 1) _ _ (by decide) (by omega) (by omega) (by omega) h1
  obtain ⟨q1, q2, q3, q4, q5, q6, q7, q8, q9⟩ := q0
  refine hL 0 (p + 1) (z + 1) _ _ (by decide) (by omega) h1 d ρ e N R sl Q (k + 1) hMN.1 hBN hMN.2.1.1 (by omega) (by omega) (fun M2 r hT2 hk2 hr2 hG2 hF2 hD2 hn2 => ?_) M' g1 g2
  have hM2 := qM_b hMN hT2 hk2 hG2 hF2 hD2
  have hR2 := hM2.2.2
  have hB2 := qBn_R hB hR2 (p' := p1) (by omega) (by omega)
  have hb2 := hB2.2.1
  rcases h2 with ⟨hty, h2⟩ | ⟨hty, h2⟩
  · obtain ⟨gg, b1, b2⟩ := qB_gg hB2.1
    have hlt1 : p1 < c := z_M_lt hS (by omega) hty
    have ht42 := hB2.2.2.1
    rcases h2 with ⟨a, h3, rfl⟩ | ⟨x, p2, h3, h4⟩
    · exact qM_45 (w := 4) hE (by decide) (by omega) hM2 (q_53tn (d := d + 3) hE hS hT2 hM2.2.1.1 (by omega) hM2.2.1.2.2.1 rfl (by omega) b1 rfl (by omega) hty h3 (fun M3 w1 w2 w3 => ⟨rfl, qO_w hO w1 w2 (qGn_tr hR2.1 w3)⟩))
    have y0 := z_Ty_p hS (p := p1 + 1) (by omega) h3
    obtain ⟨y1, y2, y3, y4, y5, y6⟩ := y0
    rcases h4 with ⟨h4, rfl⟩ | ⟨h4, rfl⟩
    · have hlt2 : p2 < c := z_M_lt hS (by omega) h4
      refine qM_45 (w := 4) hE (by decide) (by omega) hM2 (q_53t (d := d + 3) hE hS hT2 hM2.2.1.1 (by omega) hM2.2.1.2.2.1 hr2 hM2.2.1.2.2.2.2 rfl (by omega) b1 rfl (by omega) hty h3 h4 (fun M3 M4 s1 s2 s3 s4 s5 g3 => ⟨rfl, ?_⟩))
      have b3 := b2 M3 p2 s2
      have n3 : M3 81 21 = M2 81 21 := s5.2.1 21 (by decide) (by decide) (by decide) (by decide) (by decide) (by decide) (by decide)
      have n4 : M3 81 48 = M2 81 48 := s5.2.1 48 (by decide) (by decide) (by decide) (by decide) (by decide) (by decide) (by decide)
      have hRt : qR k (p2 - p1 + 1) 0 M2 M3 := ⟨qGn_y s5, qFr_y s5, by omega, by omega, by omega, by omega, by omega, by omega⟩
      have hR3 := qR_tr (qR_tr hR2 hRt) (qR_F (l := k) n3 g3)
      have gG : qGn M2 M4 := qGn_tr (qGn_y s5) (qGn_F n3 g3)
      have tl : ∀ j, j < z1 * 9 → j ≠ z * 9 + 5 → j ≠ z * 9 + 0 → j ≠ z * 9 + 6 → t_u (t_ty (t_u (t_u T1 (z * 9 + 5) v) (z * 9 + 0) 10) z1 x) (z * 9 + 6) z1 j = T1 j := fun j a b f g => by rw [t_u_o g, t_ty_lo a, t_u_o f, t_u_o b]
      have ec : e_c (e_n M4 (t_u (t_ty (t_u (t_u T1 (z * 9 + 5) v) (z * 9 + 0) 10) z1 x) (z * 9 + 6) z1)) (e_D z (z1 + z_tn x) z) (M2 81 21) r v := e_cc gG hn2 ⟨q5, q6⟩ (by omega) (fun j a b _ _ => tl j b (by omega) (by omega) (by omega)) (fun x a b => ⟨⟨by omega, by omega⟩, by omega⟩) (Int.le_refl _)
      refine qO_r hO (qT_F s1 g3) g3.1.1 g3.1.2.1 hR3 (by omega) (by omega) (e_n_fo ⟨⟨by omega, by rw [g3.1.2.2]; omega, by have := hR3.1.2.1 10 (by decide) (by decide) (by decide) (by decide) (by decide) (by decide) (by decide) (by decide) (by decide) (by decide) (by decide); have := hR2.1.2.1 10 (by decide) (by decide) (by decide) (by decide) (by decide) (by decide) (by decide) (by decide) (by decide) (by decide) (by decide); omega⟩, ?_, ?_⟩)
      · rw [g3.2.1.2.2.2.2.2.2.1, tl _ (by omega) (by omega) (by omega) (by omega), q7 _ (by omega), t_ad_1 rfl]
      · refine .inr (.inr (.inr (.inr (.inr (.inr (.inr (.inr (.inr (.inr (.inr (.inr ⟨g3.2.1.1, ?_, ?_, z1, z1 + z_tn x, x, fun y a b => ⟨⟨by omega, by omega⟩, by omega⟩, ?_, ?_, z_Ty_k hS (p := p1 + 1) (by omega) h3⟩)))))))))))
        · rw [t_u_o (by omega), t_ty_lo (by omega), t_u_s rfl]
        · rw [g3.2.1.2.1, t_u_o (by omega), t_ty_lo (by omega), t_u_o (by omega), t_u_s rfl]; exact ec
        · rw [g3.2.1.2.2.1]; exact tyQ_n s4 (qGn_F n3 g3)
        · rw [t_u_s rfl]
          exact tyC_fr (fun j a b => t_u_o (by omega)) (Int.le_refl _) (Int.le_refl _) (t_ty_C hS (p := p1 + 1) (by omega) (by omega) h3)
    · exact qM_45 (w := 4) hE (by decide) (by omega) hM2 (q_53tm (d := d + 3) hE hS hT2 hM2.2.1.1 (by omega) hM2.2.1.2.2.1 rfl (by omega) b1 rfl (by omega) hty h3 h4 (fun M3 w1 w2 w3 => ⟨rfl, qO_w hO w1 w2 (qGn_tr hR2.1 w3)⟩))
  · rcases h2 with ⟨h4, rfl⟩ | ⟨h4, rfl⟩
    · have hlt2 : p1 < c := z_M_lt hS (by omega) h4
      refine qM_45 (w := 4) hE (by decide) (by omega) hM2 (q_53d (d := d + 10) hE hS hT2 hM2.2.1.1 (by omega) hM2.2.1.2.2.1 hr2 hM2.2.1.2.2.2.2 rfl (by omega) hty h4 (fun M3 M4 s1 s2 g3 => ⟨rfl, ?_⟩))
      have n3 : M3 81 21 = M2 81 21 := s2.2 21 (by decide)
      have hR3 := qR_tr (qR_tr hR2 (qR_P s2)) (qR_F (l := k) n3 g3)
      have gG : qGn M2 M4 := qGn_tr (qGn_P s2) (qGn_F n3 g3)
      have ec : e_c (e_n M4 (t_u T1 (z * 9 + 5) v)) (e_D z z1 z) (M2 81 21) r v := e_cc gG hn2 ⟨q5, q6⟩ (by omega) (fun j a b _ _ => t_u_o (by omega)) (fun x a b => ⟨⟨by omega, by omega⟩, by omega⟩) (Int.le_refl _)
      refine qO_r hO (qT_F s1 g3) g3.1.1 g3.1.2.1 hR3 (by omega) (by omega) (e_n_fo ⟨⟨by omega, by rw [g3.1.2.2]; omega, by have := hR3.1.2.1 10 (by decide) (by decide) (by decide) (by decide) (by decide) (by decide) (by decide) (by decide) (by decide) (by decide) (by decide); have := hR2.1.2.1 10 (by decide) (by decide) (by decide) (by decide) (by decide) (by decide) (by decide) (by decide) (by decide) (by decide) (by decide); omega⟩, ?_, .inr (.inr (.inr (.inr (.inr (.inr (.inr (.inr (.inr (.inr (.inr (.inl ⟨g3.2.1.1, ?_, ?_⟩)))))))))))⟩)
      · rw [g3.2.1.2.2.2.2.2.2.1, t_u_o (by omega), q7 _ (by omega), t_ad_1 rfl]
      · rw [t_u_o (by omega), q7 _ (by omega), t_ad_0 rfl]
      · rw [g3.2.1.2.1, t_u_s rfl]; exact ec
    · exact qM_45 (w := 4) hE (by decide) (by omega) hM2 (q_53dn (d := d + 10) hE hS hT2 hM2.2.1.1 (by omega) hM2.2.1.2.2.1 rfl (by omega) hty h4 (fun M3 w1 w2 w3 => ⟨rfl, qO_w hO w1 w2 (qGn_tr hR2.1 w3)⟩))
-- a name, and [ .. ]
theorem c_get (H : qH eX tk c prev dp 4 d Q ρ e M R sl k p z o M1) (ht : (tk p).1 = 3) (ht1 : z_M (tk (p + 1)) 91) (h : g_b (prev 2 (p + 2) (z + 1) (t_u (t_u (t_u (t_ad T z 2 (tk p).2.1) (z * 9 + 2) (tk p).2.1) (z * 9 + 3) (tk p).2.2.1) (z * 9 + 0) 3)) (fun p1 z1 T1 v o => g_m tk p1 93 (fun o => o = .inr (p1 + 1, z1, t_u T1 (z * 9 + 5) v, z)) o) o) : xm_J tb_P eX tb_K0 174 (d + 13) 45 Q 11 [(0, .inr (.inr (some 82)))] [] (ρ, e, M1, R, sl) := by
  obtain ⟨hM, -⟩ := qH_M H
  have H' := H
  obtain ⟨⟨hS, hE, hz⟩, ⟨hL, hG⟩, hd, ⟨hT, hB, hk, k0, k1⟩, hO, hE1⟩ := H
  have hp := qT_p hT
  have hb := hB.2.1
  have n1 : M1 81 21 = M 81 21 := hE1.2.2.2.1 21 (by decide)
  obtain ⟨hMn, v0, hlt⟩ := qP_n H' ht
  have hlt1 : p + 1 < c := z_M_lt hS (by omega) ht1
  have e2 : p + 1 + 1 = p + 2 := by omega
  refine qP_55 H' ht (q_55a (d := d + 8) hE hS hMn.1 hMn.2.1.1 (by omega) hMn.2.1.2.2.2.1 (by omega) ht1 (fun N hN M' g1 g2 => ⟨rfl, ?_⟩))
  obtain ⟨j1, j2, j3, j4, j5, j6, j7, j8⟩ := qJ_p (k := k) (s := 3) hMn.1 hlt1 N hN
  rw [e2] at j1 g1 g2
  have hMN := qM_J hMn j1 j2 (by rw [j5]) (by rw [j6]) (by rw [j7]) j3
  have hBN : qBn c N (p + 2) := qBn_R hB hMN.2.2 (by omega) (by omega)
  rcases h with ⟨a, h1, rfl⟩ | ⟨p1, z1, T1, v, h1, h2⟩
  · exact hL 2 (p + 2) (z + 1) _ _ (by decide) (by omega) h1 d ρ e N R sl Q (k + 1) hMN.1 hBN hMN.2.1.1 (by omega) (by omega) (fun M2 w1 w2 w3 => qO_w hO w1 w2 (qGn_tr hMN.2.2.1 w3)) M' g1 g2
  have q0 := hG 2 (p + 2) (z + 1) _ _ (by decide) (by omega) (by omega) (by omega) h1
  obtain ⟨q1, q2, q3, q4, q5, q6, q7, q8, q9⟩ := q0
  refine hL 2 (p + 2) (z + 1) _ _ (by decide) (by omega) h1 d ρ e N R sl Q (k + 1) hMN.1 hBN hMN.2.1.1 (by omega) (by omega) (fun M2 r hT2 hk2 hr2 hG2 hF2 hD2 hn2 => ?_) M' g1 g2
  have hM2 := qM_b hMN hT2 hk2 hG2 hF2 hD2
  have hR2 := hM2.2.2
  have hB2 := qBn_R hB hR2 (p' := p1) (by omega) (by omega)
  have hb2 := hB2.2.1
  have v2 : M2 123 k = (tk p).2.2.2.2 := by rw [hF2.1 123 k (by omega) (by omega) (by omega), j4]; exact v0
  rcases h2 with ⟨h4, rfl⟩ | ⟨h4, rfl⟩
  · have hlt2 : p1 < c := z_M_lt hS (by omega) h4
    refine qM_45 (w := 4) hE (by decide) (by omega) hM2 (q_53c (d := d + 10) hE hS hT2 hM2.2.1.1 (by omega) hM2.2.1.2.2.1 v2 hr2 hM2.2.1.2.2.2.2 rfl (by omega) h4 (fun M3 M4 s1 s2 g3 => ⟨rfl, ?_⟩))
    have n3 : M3 81 21 = M2 81 21 := s2.2 21 (by decide)
    have hR3 := qR_tr (qR_tr hR2 (qR_P s2)) (qR_F (l := k) n3 g3)
    have gG : qGn M2 M4 := qGn_tr (qGn_P s2) (qGn_F n3 g3)
    have ec : e_c (e_n M4 (t_u T1 (z * 9 + 5) v)) (e_D z z1 z) (M2 81 21) r v := e_cc gG hn2 ⟨q5, q6⟩ (by omega) (fun j a b _ _ => t_u_o (by omega)) (fun x a b => ⟨⟨by omega, by omega⟩, by omega⟩) (Int.le_refl _)
    refine qO_r hO (qT_F s1 g3) g3.1.1 g3.1.2.1 hR3 (by omega) (by omega) (e_n_fo ⟨⟨by omega, by rw [g3.1.2.2]; omega, by have := hR3.1.2.1 10 (by decide) (by decide) (by decide) (by decide) (by decide) (by decide) (by decide) (by decide) (by decide) (by decide) (by decide); have := hR2.1.2.1 10 (by decide) (by decide) (by decide) (by decide) (by decide) (by decide) (by decide) (by decide) (by decide) (by decide) (by decide); omega⟩, ?_, .inr (.inr (.inl ⟨g3.2.1.1, ?_, ?_, ?_, ?_⟩))⟩)
    · rw [g3.2.1.2.2.2.2.2.2.1, t_u_o (by omega), q7 _ (by omega), t_u_o (by omega), t_u_o (by omega), t_u_o (by omega), t_ad_1 rfl]
    · rw [t_u_o (by omega), q7 _ (by omega), t_u_s rfl]
    · rw [g3.2.1.2.1, t_u_o (by omega), q7 _ (by omega), t_u_o (by omega), t_u_s rfl]; exact z_ww (hS.2.2.1 p hp.1 hp.2.1) ht
    · rw [t_u_o (by omega), t_u_o (by omega), q7 _ (by omega), q7 _ (by omega), t_u_o (by omega), t_u_o (by omega), t_u_s rfl, t_u_o (by omega), t_u_o (by omega), t_u_o (by omega), t_ad_1 rfl]
    · rw [g3.2.1.2.2.1, t_u_s rfl]; exact ec
  · exact qM_45 (w := 4) hE (by decide) (by omega) hM2 (q_53cn (d := d + 10) hE hS hT2 hM2.2.1.1 (by omega) hM2.2.1.2.2.1 rfl (by omega) h4 (fun M3 w1 w2 w3 => ⟨rfl, qO_w hO w1 w2 (qGn_tr hR2.1 w3)⟩))
-- a name alone
theorem c_var (H : qH eX tk c prev dp 4 d Q ρ e M R sl k p z o M1) (ht : (tk p).1 = 3) (h1 : ¬ z_M (tk (p + 1)) 91) (h2 : ¬ z_M (tk (p + 1)) 123) (h3 : ¬ z_M (tk (p + 1)) 40) (ho : o = .inr (p + 1, z + 1, t_u (t_u (t_ad T z 2 (tk p).2.1) (z * 9 + 2) (tk p).2.1) (z * 9 + 3) (tk p).2.2.1, z)) : xm_J tb_P eX tb_K0 174 (d + 13) 45 Q 11 [(0, .inr (.inr (some 82)))] [] (ρ, e, M1, R, sl) := by
  subst ho
  obtain ⟨hM, -⟩ := qH_M H
  have H' := H
  obtain ⟨⟨hS, hE, hz⟩, ⟨hL, hG⟩, hd, ⟨hT, hB, hk, k0, k1⟩, hO, hE1⟩ := H
  have hp := qT_p hT
  have hb := hB.2.1
  have n1 : M1 81 21 = M 81 21 := hE1.2.2.2.1 21 (by decide)
  obtain ⟨hMn, v0, hlt⟩ := qP_n H' ht
  have n2 : x_up (x_up M1 123 k (tk p).2.2.2.2) 81 6 (p + 1) 81 21 = M 81 21 := by rw [x_up_o (by decide), x_up_p (by decide)]; exact n1
  refine qP_55 H' ht (q_55d (d := d + 8) hE hS hMn.1 hMn.2.1.1 (by omega) v0 hMn.2.1.2.2.2.2 n2 (by omega) h1 h2 h3 (fun M' g3 => ⟨rfl, ?_⟩))
  have hR := qR_tr hMn.2.2 (qR_F (l := k) n2 g3)
  refine qO_r hO (qT_F hMn.1 g3) g3.1.1 g3.1.2.1 hR (by omega) (by omega) (e_n_fo ⟨⟨by omega, by rw [g3.1.2.2]; omega, by have := hR.1.2.1 10 (by decide) (by decide) (by decide) (by decide) (by decide) (by decide) (by decide) (by decide) (by decide) (by decide) (by decide); omega⟩, ?_, .inr (.inl ⟨g3.2.1.1, ?_, ?_, ?_⟩)⟩)
  · rw [g3.2.1.2.2.2.2.2.2.1, t_u_o (by omega), t_u_o (by omega), t_ad_1 rfl]
  · rw [t_u_o (by omega), t_u_o (by omega), t_ad_0 rfl]
  · rw [g3.2.1.2.1, t_u_s rfl]; exact z_ww (hS.2.2.1 p hp.1 hp.2.1) ht
  · rw [t_u_o (by omega), t_u_s rfl, t_u_o (by omega), t_u_o (by omega), t_ad_1 rfl]
-- nothing of it
theorem c_no (H : qH eX tk c prev dp 4 d Q ρ e M R sl k p z o M1) (h1 : ¬ (tk p).1 = 4) (h2 : ¬ z_M (tk p) 40) (h3 : ¬ z_W (tk p) 12462) (h4 : ¬ z_W (tk p) 14519) (h5 : ¬ z_W (tk p) 16052) (h6 : ¬ (tk p).1 = 3) (ho : o = .inl (tk p).2.1) : xm_J tb_P eX tb_K0 174 (d + 13) 45 Q 11 [(0, .inr (.inr (some 82)))] [] (ρ, e, M1, R, sl) := by
  subst ho
  obtain ⟨hM, -⟩ := qH_M H
  have H' := H
  obtain ⟨⟨hS, hE, hz⟩, ⟨hL, hG⟩, hd, ⟨hT, hB, hk, k0, k1⟩, hO, hE1⟩ := H
  have hp := qT_p hT
  have hb := hB.2.1
  have n1 : M1 81 21 = M 81 21 := hE1.2.2.2.1 21 (by decide)
  exact qP_54 H' (q_54n (d := d + 9) hE hS hM.1 (by omega) h1 h2 h3 h4 h5 h6 (fun M' g => ⟨rfl, qO_w hO g.1 g.2.1 (qGn_tr hM.2.2.1 (qGn_W g))⟩))
end

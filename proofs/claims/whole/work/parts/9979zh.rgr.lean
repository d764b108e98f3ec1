/-! THE REFERENCE READS BY THE GRAMMAR: a step -/
theorem e_h_k {M : Nat → Int → Int} {T : Int → Int} {S : e_S} {D : Int → Prop} {k : Int} : ∀ (l : List (Int × Int)) (x : Int × Int) (acc f r : Int), e_h M T S D k (x :: l) acc f r → (k = 11 ∨ k = 12 ∨ k = 13) ∧ 8 ≤ M 96 r ∧ M 96 r ≤ 12
  | [], (r1, f1), acc, f, r, ⟨_, _, h7, h8, _⟩ => by
    subst h8
    rcases h7 with ⟨a, b, _⟩ | ⟨a, _, b, _⟩ | ⟨a, _, b, _⟩ | ⟨a, b, _⟩
    · omega
    · omega
    · omega
    · omega
  | y :: l, (r1, f1), acc, f, r, ⟨_, _, _, h8⟩ => e_h_k l y r1 f1 r h8
/-- an access here is one there -/
theorem e_n_3 {M : Nat → Int → Int} {T : Int → Int} {D : Int → Prop} {r v : Int} (h : e_n M T D r v) : M 96 r = 2 ↔ T (v * 9 + 0) = 3 := by
  obtain ⟨-, -, h⟩ := e_n_un h
  rcases h with ⟨a, b, -⟩ | ⟨a, b, -⟩ | ⟨a, b, -⟩ | ⟨a, b, -⟩ | ⟨a, b, -⟩ | ⟨a, b, -⟩ | ⟨a, b, -⟩ | ⟨a, b, -⟩ | ⟨k, r0, l, a, b, c, f⟩ | ⟨a, b, -⟩ | ⟨a, b, -⟩ | ⟨a, b, -⟩ | ⟨a, b, -⟩
  all_goals try omega
  cases l with
  | nil => exact absurd rfl b
  | cons x l =>
    have := e_h_k l x r0 _ r f
    omega
theorem e_n_3u {M : Nat → Int → Int} {T : Int → Int} {D : Int → Prop} {r v : Int} (h : e_n M T D r v) (h2 : M 96 r = 2) : w_w (T (v * 9 + 3)) (M 97 r) ∧ T (v * 9 + 2) = T (v * 9 + 1) ∧ e_c (e_n M T) D r (M 98 r) (T (v * 9 + 5)) := by
  obtain ⟨-, -, h⟩ := e_n_un h
  rcases h with ⟨a, b, -⟩ | ⟨a, b, -⟩ | ⟨a, b, c, f, g⟩ | ⟨a, b, -⟩ | ⟨a, b, -⟩ | ⟨a, b, -⟩ | ⟨a, b, -⟩ | ⟨a, b, -⟩ | ⟨k, r0, l, a, b, c, f⟩ | ⟨a, b, -⟩ | ⟨a, b, -⟩ | ⟨a, b, -⟩ | ⟨a, b, -⟩
  · omega
  · omega
  · exact ⟨c, f, g⟩
  · omega
  · omega
  · omega
  · omega
  · omega
  · cases l with
    | nil => exact absurd rfl b
    | cons x l =>
      have := e_h_k l x r0 _ r f
      omega
  · omega
  · omega
  · omega
  · omega
section
variable {tk : Int → t_t} {c : Int} {prev : g_T}
/-- the place of what was read is where it begins -/
theorem g_part_1 (hS : t_S tk c) (hp0 : g_ok c prev) {p z p' z' v : Int} {T T' : Int → Int} (hp : 0 ≤ p) (hc : p ≤ c) (hz : 1 ≤ z) (h : g_part tk prev p z T (.inr (p', z', T', v))) : T' (v * 9 + 1) = (tk p).2.1 := by
  have c2 : ∀ {q zc : Int} {T0 : Int → Int}, 0 ≤ q → q ≤ c → z < zc → T0 (z * 9 + 1) = (tk p).2.1 → g_c2 tk prev z q zc T0 (.inr (p', z', T', v)) → T' (v * 9 + 1) = (tk p).2.1 := by
    intro q zc T0 hq hqc hzc h0 h
    have := g_c2_ok hS hp0 hq hqc hz hzc h
    obtain ⟨-, -, -, -, rfl, h7⟩ := this
    rw [h7 _ (by omega) (by omega)]; exact h0
  rcases h with ⟨a, b⟩ | ⟨a, b⟩ | ⟨a, b⟩ | ⟨a, b⟩ | ⟨a, b⟩ | ⟨a, b⟩ | ⟨a1, a2, a3, a4, a5, a6, b⟩
  · cases b
    rw [t_u_o (by omega), t_ad_1 rfl]
  · have hlt := z_M_lt hS ⟨hp, hc⟩ a
    rcases b with ⟨_, _, e⟩ | ⟨p1, z1, T1, v1, h1, h2⟩
    · cases e
    obtain ⟨y1, y2, y3, y4, y5, y6, y7, y8, y9⟩ := hp0 0 (p + 1) (z + 1) _ _ (by decide) (by omega) (by omega) (by omega) h1
    rcases h2 with ⟨hty, h2⟩ | ⟨hty, h2⟩
    · rcases h2 with ⟨_, _, e⟩ | ⟨x, p2, h3, h4⟩
      · cases e
      rcases h4 with ⟨_, e⟩ | ⟨_, e⟩
      · cases e
        rw [t_u_o (by omega), t_ty_lo (by omega), t_u_o (by omega), t_u_o (by omega), y7 _ (by omega), t_ad_1 rfl]
      · cases e
    · rcases h2 with ⟨_, e⟩ | ⟨_, e⟩
      · cases e
        rw [t_u_o (by omega), y7 _ (by omega), t_ad_1 rfl]
      · cases e
  · rcases b with ⟨_, e⟩ | ⟨_, e⟩
    · cases e
      rw [t_u_o (by omega), t_u_o (by omega), t_ad_1 rfl]
    · cases e
  · have hlt := z_W_lt hS ⟨hp, hc⟩ a
    rcases b with ⟨_, _, e⟩ | ⟨p1, z1, T1, v1, h1, h2⟩
    · cases e
    obtain ⟨y1, y2, y3, y4, y5, y6, y7, y8, y9⟩ := hp0 4 (p + 1) (z + 1) _ _ (by decide) (by omega) (by omega) (by omega) h1
    cases h2
    rw [t_u_o (by omega), y7 _ (by omega), t_ad_1 rfl]
  · have hlt := z_W_lt hS ⟨hp, hc⟩ a
    rcases b with ⟨_, _, e⟩ | ⟨p1, z1, T1, v1, h1, h2⟩
    · cases e
    obtain ⟨y1, y2, y3, y4, y5, y6, y7, y8, y9⟩ := hp0 4 (p + 1) (z + 1) _ _ (by decide) (by omega) (by omega) (by omega) h1
    cases h2
    rw [t_u_o (by omega), y7 _ (by omega), t_ad_1 rfl]
  · have hlt : p < c := z_lt hS ⟨hp, hc⟩ (by rw [a]; decide)
    rcases b with ⟨b1, b⟩ | ⟨b1, b⟩ | ⟨b1, b2, b3, b⟩
    · have hlt1 := z_M_lt hS (p := p + 1) (by omega) b1
      rcases b with ⟨_, _, e⟩ | ⟨p1, z1, T1, v1, h1, h2⟩
      · cases e
      obtain ⟨y1, y2, y3, y4, y5, y6, y7, y8, y9⟩ := hp0 2 (p + 2) (z + 1) _ _ (by decide) (by omega) (by omega) (by omega) h1
      rcases h2 with ⟨_, e⟩ | ⟨_, e⟩
      · cases e
        rw [t_u_o (by omega), y7 _ (by omega), t_u_o (by omega), t_u_o (by omega), t_u_o (by omega), t_ad_1 rfl]
      · cases e
    · have e0 : (t_u (t_u (t_u (t_ad T z 2 (tk p).2.1) (z * 9 + 2) (tk p).2.1) (z * 9 + 3) (tk p).2.2.1) (z * 9 + 0) 5) (z * 9 + 1) = (tk p).2.1 := by rw [t_u_o (by omega), t_u_o (by omega), t_u_o (by omega), t_ad_1 rfl]
      generalize (t_u (t_u (t_u (t_ad T z 2 (tk p).2.1) (z * 9 + 2) (tk p).2.1) (z * 9 + 3) (tk p).2.2.1) (z * 9 + 0) 5) = T0 at b e0
      rcases b with ⟨g1, b⟩ | ⟨g1, b⟩
      · have hlt1 := z_M_lt hS (p := p + 1) (by omega) g1
        rcases b with ⟨_, _, e⟩ | ⟨L, p1, m, h1, h2⟩
        · cases e
        have q1 := z_I_p hS (p := p + 1 + 1) (by omega) h1
        have e1 : (t_u (t_u (t_ix (t_ad T0 (z + 1) 17 (tk (p + 1 + 1)).2.1) (z + 1 + 1) 0 L) ((z + 1) * 9 + 5) (z + 1 + 1)) (z * 9 + 6) (z + 1)) (z * 9 + 1) = (tk p).2.1 := by rw [t_u_o (by omega), t_u_o (by omega), t_ix_lo _ _ _ _ _ (by omega) (.inl rfl), t_ad_lo (by omega)]; exact e0
        rcases h2 with ⟨_, _, e⟩ | ⟨p2, z2, T2, v2, h2, h3⟩
        · cases e
        have g2 := g_ci_ok hS m 1 p1 _ _ (z + 1) _ (by omega) (by omega) (by omega) (by omega) h2
        obtain ⟨i1, i2, i3, i4, i5⟩ := g2
        rcases h3 with ⟨h5, h3⟩ | ⟨_, e⟩
        · have hlt2 := z_M_lt hS (p := p2) (by omega) h5
          exact c2 (by omega) (by omega) (by omega) (by rw [i5 _ (by omega) (by omega)]; exact e1) h3
        · cases e
      · exact c2 (by omega) (by omega) (by omega) e0 b
    · cases b
      rw [t_u_o (by omega), t_u_o (by omega), t_ad_1 rfl]
  · cases b
theorem g_prod_1 (hS : t_S tk c) (hp0 : g_ok c prev) {p z p' z' v : Int} {T T' : Int → Int} (hp : 0 ≤ p) (hc : p ≤ c) (hz : 1 ≤ z) (h : g_prod tk prev p z T (.inr (p', z', T', v))) : T' (v * 9 + 1) = (tk p).2.1 := by
  rcases h with ⟨_, _, e⟩ | ⟨p1, z1, T1, v1, h1, h2⟩
  · cases e
  have e1 := g_part_1 hS hp0 hp hc hz h1
  obtain ⟨y1, y2, y3, y4, y5, y6, y7, y8, y9⟩ := g_part_ok hS hp0 hp hc hz h1
  rcases h2 with ⟨_, _, e⟩ | ⟨_, m, h2⟩
  · cases e
    exact e1
  · obtain ⟨⟨i1, i2, i3, i4, i5⟩, i6⟩ := g_pk_ok hS hp0 m p1 (z1 + 1) _ v1 _ (by omega) (by omega) (by omega) (by omega) h2
    obtain rfl := i6 _ _ _ _ rfl
    rw [i5 _ (by omega) (by omega), t_u_o (by omega), t_ad_1 rfl]
    exact e1
theorem g_sum_1 (hS : t_S tk c) (hp0 : g_ok c prev) {p z p' z' v : Int} {T T' : Int → Int} (hp : 0 ≤ p) (hc : p ≤ c) (hz : 1 ≤ z) (h : g_sum tk prev p z T (.inr (p', z', T', v))) : T' (v * 9 + 1) = (tk p).2.1 := by
  rcases h with ⟨_, _, e⟩ | ⟨p1, z1, T1, v1, h1, h2⟩
  · cases e
  have e1 := g_prod_1 hS hp0 hp hc hz h1
  obtain ⟨y1, y2, y3, y4, y5, y6, y7, y8, y9⟩ := g_prod_ok hS hp0 hp hc hz h1
  rcases h2 with ⟨_, e⟩ | ⟨_, m, h2⟩
  · cases e
    exact e1
  · obtain ⟨⟨i1, i2, i3, i4, i5⟩, i6⟩ := g_sk_ok hS hp0 m p1 (z1 + 1) _ v1 _ (by omega) (by omega) (by omega) (by omega) h2
    obtain rfl := i6 _ _ _ _ rfl
    rw [i5 _ (by omega) (by omega), t_u_o (by omega), t_ad_1 rfl]
    exact e1
end
section
variable {ρ : Nat → Option xk} {e sl d : Nat} {M : Nat → Int → Int} {R : Nat → Int → Option Nat} {eX : Nat → Nat × (Nat → Int32)} {Q : xK}
variable {tk : Int → t_t} {c p z k dp : Int} {prev : g_T} {o : g_o} {M1 : Nat → Int → Int} {T : Int → Int}
/-- let -/
theorem c_let (H : qH eX tk c prev dp 1 d Q ρ e M R sl k p z o M1) (ht : z_W (tk p) 12468) (h : g_let tk prev p z T o) : xm_J tb_P eX tb_K0 174 (d + 13) 45 Q 11 [(0, .inr (.inr (some 82)))] [] (ρ, e, M1, R, sl) := by
  obtain ⟨hM, hc⟩ := qH_M H
  have H' := H
  obtain ⟨⟨hS, hE, hz⟩, ⟨hL, hG⟩, hd, ⟨hT, hB, hk, k0, k1⟩, hO, hE1⟩ := H
  have hp := qT_p hT
  have hlt : p < c := z_W_lt hS ⟨hp.1, hp.2.1⟩ ht
  rcases h with ⟨h3, h⟩ | ⟨h3, rfl⟩
  · have hlt1 : p + 1 < c := z_lt hS (by omega) (by rw [h3]; decide)
    rcases h with ⟨h61, h⟩ | ⟨h61, rfl⟩
    · have hlt2 : p + 2 < c := z_M_lt hS (by omega) h61
      refine qM_45 (w := 1) hE (by decide) (by omega) hM (q_50a (d := d + 9) hE hS hM.1 hM.2.1.1 (by omega) hM.2.1.2.2.1 hM.2.1.2.2.2.1 (by omega) ht h3 h61 (fun N j1 j2 j3 j4 j5 j6 M' g1 g2 => ⟨rfl, ?_⟩))
      have cx : ∀ x, x ≠ 81 ∧ x ≠ 120 ∧ x ≠ 123 ∧ x ≠ 124 → N x = M1 x := fun x a => j6 x a.1 a.2.1 a.2.2.1 a.2.2.2
      have hMN := qM_J (st' := 1) hM j1 j2 (by rw [cx 119 (by decide)]) (by rw [cx 121 (by decide)]) (by rw [cx 126 (by decide)]) j3
      have hBN : qBn c N (p + 3) := qBn_R hB hMN.2.2 (by omega) (by omega)
      rcases h with ⟨a, h1, rfl⟩ | ⟨p2, z2, T2, v2, h1, h⟩
      · exact hL 1 (p + 3) (z + 1) (t_u (t_u (t_ad T z 14 (tk p).2.1) (z * 9 + 2) (tk (p + 1)).2.1) (z * 9 + 3) (tk (p + 1)).2.2.1) _ (by decide) (by omega) h1 d ρ e N R sl Q (k + 1) hMN.1 hBN hMN.2.1.1 (by omega) (by omega) (fun M9 w1 w2 w3 => qO_w hO w1 w2 (qGn_tr hMN.2.2.1 w3)) M' g1 g2
      have y0 := hG 1 (p + 3) (z + 1) (t_u (t_u (t_ad T z 14 (tk p).2.1) (z * 9 + 2) (tk (p + 1)).2.1) (z * 9 + 3) (tk (p + 1)).2.2.1) _ (by decide) (by omega) (by omega) (by omega) h1
      obtain ⟨y21, y22, y23, y24, y25, y26, y27, y28, y29⟩ := y0
      refine hL 1 (p + 3) (z + 1) (t_u (t_u (t_ad T z 14 (tk p).2.1) (z * 9 + 2) (tk (p + 1)).2.1) (z * 9 + 3) (tk (p + 1)).2.2.1) _ (by decide) (by omega) h1 d ρ e N R sl Q (k + 1) hMN.1 hBN hMN.2.1.1 (by omega) (by omega) (fun M2 r2 hT2 hk2 hr2 hG2 hF2 hD2 hn2 => ?_) M' g1 g2
      clear g1 h1
      have hM2 := qM_b hMN hT2 hk2 hG2 hF2 hD2
      have f2 : ∀ x, 119 ≤ x → x ≤ 126 → M2 x k = N x k := fun x a b => hF2.1 x k a b (by omega)
      have hB2 := qBn_R hB hM2.2.2 (p' := p2) (by omega) (by omega)
      have hb2 := hB2.2.1
      rcases h with ⟨h302, h⟩ | ⟨h302, rfl⟩
      · have hlt3 : p2 < c := z_W_lt hS (by omega) h302
        refine qM_45 (w := 1) hE (by decide) (by omega) hM2 (q_50d (d := d + 9) hE hS hT2 hM2.2.1.1 (by omega) hM2.2.1.2.2.1 hM2.2.1.2.2.2.1 (by omega) hr2 h302 (fun N2 m1 m2 m3 m4 m5 M' g1 g2 => ⟨rfl, ?_⟩))
        have cx2 : ∀ x, x ≠ 81 ∧ x ≠ 120 ∧ x ≠ 122 → N2 x = M2 x := fun x a => m5 x a.1 a.2.1 a.2.2
        have hMN2 := qM_J (st' := 2) hM2 m1 m2 (by rw [cx2 119 (by decide)]) (by rw [cx2 121 (by decide)]) (by rw [cx2 126 (by decide)]) m3
        have hBN : qBn c N2 (p2 + 1) := qBn_R hB hMN2.2.2 (by omega) (by omega)
        rcases h with ⟨a, h1, rfl⟩ | ⟨p3, z3, T3, v3, h1, h⟩
        · exact hL 0 (p2 + 1) (z2) (t_u T2 (z * 9 + 5) v2) _ (by decide) (by omega) h1 d ρ e N2 R sl Q (k + 1) hMN2.1 hBN hMN2.2.1.1 (by omega) (by omega) (fun M9 w1 w2 w3 => qO_w hO w1 w2 (qGn_tr hMN2.2.2.1 w3)) M' g1 g2
        have y0 := hG 0 (p2 + 1) (z2) (t_u T2 (z * 9 + 5) v2) _ (by decide) (by omega) (by omega) (by omega) h1
        obtain ⟨y31, y32, y33, y34, y35, y36, y37, y38, y39⟩ := y0
        refine hL 0 (p2 + 1) (z2) (t_u T2 (z * 9 + 5) v2) _ (by decide) (by omega) h1 d ρ e N2 R sl Q (k + 1) hMN2.1 hBN hMN2.2.1.1 (by omega) (by omega) (fun M3 r3 hT3 hk3 hr3 hG3 hF3 hD3 hn3 => ?_) M' g1 g2
        clear g1 h1
        have hM3 := qM_b hMN2 hT3 hk3 hG3 hF3 hD3
        have f3 : ∀ x, 119 ≤ x → x ≤ 126 → M3 x k = N2 x k := fun x a b => hF3.1 x k a b (by omega)
        have hB3 := qBn_R hB hM3.2.2 (p' := p3) (by omega) (by omega)
        have hb3 := hB3.2.1
        subst h
        have c122 : M3 122 k = r2 := by rw [f3 122 (by omega) (by omega)]; exact m4
        have c123 : M3 123 k = (tk (p + 1)).2.2.2.2 := by rw [f3 123 (by omega) (by omega), cx2 123 (by decide), f2 123 (by omega) (by omega)]; exact j4
        have c124 : M3 124 k = (tk (p + 1)).2.1 := by rw [f3 124 (by omega) (by omega), cx2 124 (by decide), f2 124 (by omega) (by omega)]; exact j5
        refine qM_45 (w := 1) hE (by decide) (by omega) hM3 (q_50e (d := d + 9) hE hM3.2.1.1 (by omega) hM3.2.1.2.2.1 hr3 c123 c122 c124 hM3.2.1.2.2.2.2 rfl (by omega) (fun M4 g4 => ⟨rfl, ?_⟩))
        have hR4 := qR_tr hM3.2.2 (qR_F5 (l := k) rfl g4)
        have gG3 : qGn M3 M4 := qGn_F5 rfl g4
        have gG2 : qGn M2 M4 := qGn_tr (qGn_J m2) (qGn_tr hG3 gG3)
        have n23 : M2 81 21 ≤ M3 81 21 := (qGn_tr (qGn_J m2) hG3).2.2.1.1
        have tz : ∀ i, 0 ≤ i → i < 9 → i ≠ 5 → t_u T3 (v2 * 9 + 7) v3 (z * 9 + i) = (t_u (t_u (t_ad T z 14 (tk p).2.1) (z * 9 + 2) (tk (p + 1)).2.1) (z * 9 + 3) (tk (p + 1)).2.2.1) (z * 9 + i) := fun i a b f => by rw [t_u_o (by omega), y37 _ (by omega), t_u_o (by omega), y27 _ (by omega)]
        have ec2 : e_c (e_n M4 (t_u T3 (v2 * 9 + 7) v3)) (e_D z z3 z) (M3 81 21) r2 v2 := e_cc gG2 hn2 ⟨y25, y26⟩ (by omega) (fun j a b q1 q2 => by rw [t_u_o q1, y37 _ b, t_u_o (by omega)]) (fun x a b => ⟨⟨by omega, by omega⟩, by omega⟩) n23
        have ec3 : e_c (e_n M4 (t_u T3 (v2 * 9 + 7) v3)) (e_D z z3 z) (M3 81 21) r3 v3 := e_cc gG3 hn3 ⟨y35, y36⟩ (by omega) (fun j a b q1 q2 => t_u_o (by omega)) (fun x a b => ⟨⟨by omega, by omega⟩, by omega⟩) (Int.le_refl _)
        have e5 : t_u T3 (v2 * 9 + 7) v3 (z * 9 + 5) = v2 := by rw [t_u_o (by omega), y37 _ (by omega), t_u_s rfl]
        have nx : t_nx (t_u T3 (v2 * 9 + 7) v3) v2 = v3 := by
          unfold t_nx
          rw [t_u_s rfl, if_pos (by omega)]
        refine qO_r hO (qT_F5 hT3 g4) g4.1.1 g4.1.2.1 hR4 (by omega) (by omega) (e_n_fo ⟨⟨by omega, by rw [g4.1.2.2]; omega, by have := hR4.1.2.1 10 (by decide) (by decide) (by decide) (by decide) (by decide) (by decide) (by decide) (by decide) (by decide) (by decide) (by decide); have := hM3.2.2.1.2.1 10 (by decide) (by decide) (by decide) (by decide) (by decide) (by decide) (by decide) (by decide) (by decide) (by decide) (by decide); omega⟩, ?_, .inr (.inr (.inr (.inr (.inr (.inr (.inr (.inr (.inr (.inl ⟨g4.2.1.1, ?_, ?_, ?_, ?_, ?_⟩)))))))))⟩)
        · rw [g4.2.1.2.2.2.2.2.2, tz 1 (by omega) (by omega) (by omega), t_u_o (by omega), t_u_o (by omega), t_ad_1 rfl]
        · rw [tz 0 (by omega) (by omega) (by omega), t_u_o (by omega), t_u_o (by omega), t_ad_0 rfl]
        · rw [g4.2.1.2.1, tz 3 (by omega) (by omega) (by omega), t_u_s rfl]; exact z_ww (hS.2.2.1 (p + 1) (by omega) (by omega)) h3
        · rw [g4.2.1.2.2.2.2.1, tz 2 (by omega) (by omega) (by omega), t_u_o (by omega), t_u_s rfl]
        · rw [g4.2.1.2.2.1, e5]; exact ec2
        · rw [g4.2.1.2.2.2.1, e5, nx]; exact ec3
      · exact qM_45 (w := 1) hE (by decide) (by omega) hM2 (q_50dn (d := d + 9) hE hS hT2 (by omega) hM2.2.1.2.2.1 hM2.2.1.2.2.2.1 (by omega) hr2 h302 (fun M' w1 w2 w3 => ⟨rfl, qO_w hO w1 w2 (qGn_tr hM2.2.2.1 w3)⟩))
    · exact qM_45 (w := 1) hE (by decide) (by omega) hM (q_50am (d := d + 9) hE hS hM.1 (by omega) hM.2.1.2.2.1 hM.2.1.2.2.2.1 (by omega) ht h3 h61 (fun M' w1 w2 w3 => ⟨rfl, qO_w hO w1 w2 (qGn_tr hM.2.2.1 w3)⟩))
  · exact qM_45 (w := 1) hE (by decide) (by omega) hM (q_50an (d := d + 9) hE hS hM.1 (by omega) hM.2.1.2.2.1 hM.2.1.2.2.2.1 (by omega) ht h3 (fun M' w1 w2 w3 => ⟨rfl, qO_w hO w1 w2 (qGn_tr hM.2.2.1 w3)⟩))
/-- if -/
theorem c_if (H : qH eX tk c prev dp 1 d Q ρ e M R sl k p z o M1) (hP : qXo eX tk c 2 (g_sum tk prev) dp) (ht : z_W (tk p) 294) (h : g_if tk prev p z T o) : xm_J tb_P eX tb_K0 174 (d + 13) 45 Q 11 [(0, .inr (.inr (some 82)))] [] (ρ, e, M1, R, sl) := by
  obtain ⟨hM, hc⟩ := qH_M H
  have H' := H
  obtain ⟨⟨hS, hE, hz⟩, ⟨hL, hG⟩, hd, ⟨hT, hB, hk, k0, k1⟩, hO, hE1⟩ := H
  have hp := qT_p hT
  have hlt : p < c := z_W_lt hS ⟨hp.1, hp.2.1⟩ ht
  obtain ⟨j1, j2, j3, j4, j5, j6, j7, j8⟩ := qJ_p (k := k) (s := 3) hM.1 hlt _ rfl
  refine qM_45 (w := 1) hE (by decide) (by omega) hM (q_50b (d := d + 9) hE hS hM.1 hM.2.1.1 (by omega) hM.2.1.2.2.1 hM.2.1.2.2.2.1 (by omega) ht (fun M' g1 => ⟨rfl, ?_⟩))
  have hMN := qM_J (st' := 3) hM j1 j2 (by rw [j5]) (by rw [j6]) (by rw [j7]) j3
  generalize x_up (x_up M1 81 6 (p + 1)) 120 k 3 = N at *
  have hBN : qBn c N (p + 1) := qBn_R hB hMN.2.2 (by omega) (by omega)
  rcases h with ⟨a, h1, rfl⟩ | ⟨p2, z2, T2, v2, h1, h⟩
  · exact hP (p + 1) (z + 1) (t_ad T z 15 (tk p).2.1) _ (by omega) h1 d ρ e N R sl Q (k + 1) hMN.1 hBN hMN.2.1.1 (by omega) (by omega) (fun M9 w1 w2 w3 => qO_w hO w1 w2 (qGn_tr hMN.2.2.1 w3)) M' (fun _ => g1) (fun h => absurd h (by omega))
  have y0 := g_sum_ok hS hG (p := p + 1) (z := z + 1) (by omega) (by omega) (by omega) h1
  obtain ⟨y21, y22, y23, y24, y25, y26, y27, y28, y29⟩ := y0
  refine hP (p + 1) (z + 1) (t_ad T z 15 (tk p).2.1) _ (by omega) h1 d ρ e N R sl Q (k + 1) hMN.1 hBN hMN.2.1.1 (by omega) (by omega) (fun M2 r2 hT2 hk2 hr2 hG2 hF2 hD2 hn2 => ?_) M' (fun _ => g1) (fun h => absurd h (by omega))
  clear g1 h1
  have hM2 := qM_b hMN hT2 hk2 hG2 hF2 hD2
  have f2 : ∀ x, 119 ≤ x → x ≤ 126 → M2 x k = N x k := fun x a b => hF2.1 x k a b (by omega)
  have hB2 := qBn_R hB hM2.2.2 (p' := p2) (by omega) (by omega)
  have hb2 := hB2.2.1
  rcases h with ⟨hrel, h⟩ | ⟨hw, rfl⟩
  rotate_left
  · exact qM_45 (w := 1) hE (by decide) (by omega) hM2 (q_50fn (d := d + 9) hE hS hT2 (by omega) hM2.2.1.2.2.1 hM2.2.1.2.2.2.1 (by omega) hr2 hw (fun M' w1 w2 w3 => ⟨rfl, qO_w hO w1 w2 (qGn_tr hM2.2.2.1 w3)⟩))
  have hl2 : p2 < c := z_r_lt hS (by omega) hrel
  refine qM_45 (w := 1) hE (by decide) (by omega) hM2 (q_50f (d := d + 9) hE hS hT2 hM2.2.1.1 (by omega) hM2.2.1.2.2.1 hM2.2.1.2.2.2.1 (by omega) hr2 hrel (fun N2 j1 j2 j3 m4 m5 m6 M' g1 => ⟨rfl, ?_⟩))
  have cx2 : ∀ x, x ≠ 81 ∧ x ≠ 120 ∧ x ≠ 122 ∧ x ≠ 123 → N2 x = M2 x := fun x a => m6 x a.1 a.2.1 a.2.2.1 a.2.2.2
  have hMN2 := qM_J (st' := 4) hM2 j1 j2 (by rw [cx2 119 (by decide)]) (by rw [cx2 121 (by decide)]) (by rw [cx2 126 (by decide)]) j3
  have jj2 := j2
  have hBN : qBn c N2 (p2 + 1) := qBn_R hB hMN2.2.2 (by omega) (by omega)
  rcases h with ⟨a, h1, rfl⟩ | ⟨p3, z3, T3, v3, h1, h⟩
  · exact hP (p2 + 1) (z2) (t_u (t_u T2 (z * 9 + 5) v2) (z * 9 + 4) (z_r (tk p2))) _ (by omega) h1 d ρ e N2 R sl Q (k + 1) hMN2.1 hBN hMN2.2.1.1 (by omega) (by omega) (fun M9 w1 w2 w3 => qO_w hO w1 w2 (qGn_tr hMN2.2.2.1 w3)) M' (fun _ => g1) (fun h => absurd h (by omega))
  have y0 := g_sum_ok hS hG (p := p2 + 1) (z := z2) (by omega) (by omega) (by omega) h1
  obtain ⟨y31, y32, y33, y34, y35, y36, y37, y38, y39⟩ := y0
  refine hP (p2 + 1) (z2) (t_u (t_u T2 (z * 9 + 5) v2) (z * 9 + 4) (z_r (tk p2))) _ (by omega) h1 d ρ e N2 R sl Q (k + 1) hMN2.1 hBN hMN2.2.1.1 (by omega) (by omega) (fun M3 r3 hT3 hk3 hr3 hG3 hF3 hD3 hn3 => ?_) M' (fun _ => g1) (fun h => absurd h (by omega))
  clear g1 h1
  have hM3 := qM_b hMN2 hT3 hk3 hG3 hF3 hD3
  have f3 : ∀ x, 119 ≤ x → x ≤ 126 → M3 x k = N2 x k := fun x a b => hF3.1 x k a b (by omega)
  have hB3 := qBn_R hB hM3.2.2 (p' := p3) (by omega) (by omega)
  have hb3 := hB3.2.1
  rcases h with ⟨hth, h⟩ | ⟨hw, rfl⟩
  rotate_left
  · exact qM_45 (w := 1) hE (by decide) (by omega) hM3 (q_50gn (d := d + 9) hE hS hT3 (by omega) hM3.2.1.2.2.1 hM3.2.1.2.2.2.1 (by omega) hr3 hw (fun M' w1 w2 w3 => ⟨rfl, qO_w hO w1 w2 (qGn_tr hM3.2.2.1 w3)⟩))
  have hl3 : p3 < c := z_W_lt hS (by omega) hth
  refine qM_45 (w := 1) hE (by decide) (by omega) hM3 (q_50g (d := d + 9) hE hS hT3 hM3.2.1.1 (by omega) hM3.2.1.2.2.1 hM3.2.1.2.2.2.1 (by omega) hr3 hth (fun N3 j1 j2 j3 n4 n5 M' g1 g2 => ⟨rfl, ?_⟩))
  have cx3 : ∀ x, x ≠ 81 ∧ x ≠ 120 ∧ x ≠ 124 → N3 x = M3 x := fun x a => n5 x a.1 a.2.1 a.2.2
  have hMN3 := qM_J (st' := 5) hM3 j1 j2 (by rw [cx3 119 (by decide)]) (by rw [cx3 121 (by decide)]) (by rw [cx3 126 (by decide)]) j3
  have jj3 := j2
  have hBN : qBn c N3 (p3 + 1) := qBn_R hB hMN3.2.2 (by omega) (by omega)
  rcases h with ⟨a, h1, rfl⟩ | ⟨p4, z4, T4, v4, h1, h⟩
  · exact hL 0 (p3 + 1) (z3) (t_u T3 (v2 * 9 + 7) v3) _ (by decide) (by omega) h1 d ρ e N3 R sl Q (k + 1) hMN3.1 hBN hMN3.2.1.1 (by omega) (by omega) (fun M9 w1 w2 w3 => qO_w hO w1 w2 (qGn_tr hMN3.2.2.1 w3)) M' g1 g2
  have y0 := hG 0 (p3 + 1) (z3) (t_u T3 (v2 * 9 + 7) v3) _ (by decide) (by omega) (by omega) (by omega) h1
  obtain ⟨y41, y42, y43, y44, y45, y46, y47, y48, y49⟩ := y0
  refine hL 0 (p3 + 1) (z3) (t_u T3 (v2 * 9 + 7) v3) _ (by decide) (by omega) h1 d ρ e N3 R sl Q (k + 1) hMN3.1 hBN hMN3.2.1.1 (by omega) (by omega) (fun M4 r4 hT4 hk4 hr4 hG4 hF4 hD4 hn4 => ?_) M' g1 g2
  clear g1 h1
  have hM4 := qM_b hMN3 hT4 hk4 hG4 hF4 hD4
  have f4 : ∀ x, 119 ≤ x → x ≤ 126 → M4 x k = N3 x k := fun x a b => hF4.1 x k a b (by omega)
  have hB4 := qBn_R hB hM4.2.2 (p' := p4) (by omega) (by omega)
  have hb4 := hB4.2.1
  rcases h with ⟨hel, h⟩ | ⟨hw, rfl⟩
  rotate_left
  · exact qM_45 (w := 1) hE (by decide) (by omega) hM4 (q_50hn (d := d + 9) hE hS hT4 (by omega) hM4.2.1.2.2.1 hM4.2.1.2.2.2.1 (by omega) hr4 hw (fun M' w1 w2 w3 => ⟨rfl, qO_w hO w1 w2 (qGn_tr hM4.2.2.1 w3)⟩))
  have hl4 : p4 < c := z_W_lt hS (by omega) hel
  refine qM_45 (w := 1) hE (by decide) (by omega) hM4 (q_50h (d := d + 9) hE hS hT4 hM4.2.1.1 (by omega) hM4.2.1.2.2.1 hM4.2.1.2.2.2.1 (by omega) hr4 hel (fun N4 j1 j2 j3 o4 o5 M' g1 g2 => ⟨rfl, ?_⟩))
  have cx4 : ∀ x, x ≠ 81 ∧ x ≠ 120 ∧ x ≠ 125 → N4 x = M4 x := fun x a => o5 x a.1 a.2.1 a.2.2
  have hMN4 := qM_J (st' := 6) hM4 j1 j2 (by rw [cx4 119 (by decide)]) (by rw [cx4 121 (by decide)]) (by rw [cx4 126 (by decide)]) j3
  have jj4 := j2
  have hBN : qBn c N4 (p4 + 1) := qBn_R hB hMN4.2.2 (by omega) (by omega)
  rcases h with ⟨a, h1, rfl⟩ | ⟨p5, z5, T5, v5, h1, h⟩
  · exact hL 0 (p4 + 1) (z4) (t_u T4 (v3 * 9 + 7) v4) _ (by decide) (by omega) h1 d ρ e N4 R sl Q (k + 1) hMN4.1 hBN hMN4.2.1.1 (by omega) (by omega) (fun M9 w1 w2 w3 => qO_w hO w1 w2 (qGn_tr hMN4.2.2.1 w3)) M' g1 g2
  have y0 := hG 0 (p4 + 1) (z4) (t_u T4 (v3 * 9 + 7) v4) _ (by decide) (by omega) (by omega) (by omega) h1
  obtain ⟨y51, y52, y53, y54, y55, y56, y57, y58, y59⟩ := y0
  refine hL 0 (p4 + 1) (z4) (t_u T4 (v3 * 9 + 7) v4) _ (by decide) (by omega) h1 d ρ e N4 R sl Q (k + 1) hMN4.1 hBN hMN4.2.1.1 (by omega) (by omega) (fun M5 r5 hT5 hk5 hr5 hG5 hF5 hD5 hn5 => ?_) M' g1 g2
  clear g1 h1
  have hM5 := qM_b hMN4 hT5 hk5 hG5 hF5 hD5
  have f5 : ∀ x, 119 ≤ x → x ≤ 126 → M5 x k = N4 x k := fun x a b => hF5.1 x k a b (by omega)
  have hB5 := qBn_R hB hM5.2.2 (p' := p5) (by omega) (by omega)
  have hb5 := hB5.2.1
  have c122 : M5 122 k = r2 := by rw [f5 122 (by omega) (by omega), cx4 122 (by decide), f4 122 (by omega) (by omega), cx3 122 (by decide), f3 122 (by omega) (by omega)]; exact m4
  have c123 : M5 123 k = z_r (tk p2) := by rw [f5 123 (by omega) (by omega), cx4 123 (by decide), f4 123 (by omega) (by omega), cx3 123 (by decide), f3 123 (by omega) (by omega)]; exact m5
  have c124 : M5 124 k = r3 := by rw [f5 124 (by omega) (by omega), cx4 124 (by decide), f4 124 (by omega) (by omega)]; exact n4
  have c125 : M5 125 k = r4 := by rw [f5 125 (by omega) (by omega)]; exact o4
  rcases h with ⟨hen, ho⟩ | ⟨hw, rfl⟩
  rotate_left
  · exact qM_45 (w := 1) hE (by decide) (by omega) hM5 (q_50in (d := d + 9) hE hS hT5 hM5.2.1.1 (by omega) hM5.2.1.2.2.1 rfl (by omega) hw (fun M' w1 w2 w3 => ⟨rfl, qO_w hO w1 w2 (qGn_tr hM5.2.2.1 w3)⟩))
  subst ho
  have hl5 : p5 < c := z_W_lt hS (by omega) hen
  refine qM_45 (w := 1) hE (by decide) (by omega) hM5 (q_50i (d := d + 9) hE hS hT5 hM5.2.1.1 (by omega) hM5.2.1.2.2.1 hr5 c123 c122 c124 c125 hM5.2.1.2.2.2.2 rfl (by omega) hen (fun M6 M7 s1 s2 g4 => ⟨rfl, ?_⟩))
  have n6 : M6 81 21 = M5 81 21 := s2.2 21 (by decide)
  have hR7 := qR_tr (qR_tr hM5.2.2 (qR_P s2)) (qR_F5 (l := k) n6 g4)
  have gG5 : qGn M5 M7 := qGn_tr (qGn_P s2) (qGn_F5 n6 g4)
  have gG4 : qGn M4 M7 := qGn_tr (qGn_J jj4) (qGn_tr hG5 gG5)
  have gG3 : qGn M3 M7 := qGn_tr (qGn_J jj3) (qGn_tr hG4 gG4)
  have gG2 : qGn M2 M7 := qGn_tr (qGn_J jj2) (qGn_tr hG3 gG3)
  have n45 : M4 81 21 ≤ M5 81 21 := (qGn_tr (qGn_J jj4) hG5).2.2.1.1
  have n34 : M3 81 21 ≤ M4 81 21 := (qGn_tr (qGn_J jj3) hG4).2.2.1.1
  have n23 : M2 81 21 ≤ M3 81 21 := (qGn_tr (qGn_J jj2) hG3).2.2.1.1
  have t4 : ∀ j, j < z4 * 9 → j ≠ v4 * 9 + 7 → j ≠ v3 * 9 + 7 → t_u T5 (v4 * 9 + 7) v5 j = T4 j := fun j a b f => by rw [t_u_o b, y57 _ a, t_u_o f]
  have t3 : ∀ j, j < z3 * 9 → j ≠ v3 * 9 + 7 → j ≠ v2 * 9 + 7 → t_u T5 (v4 * 9 + 7) v5 j = T3 j := fun j a b f => by rw [t4 j (by omega) (by omega) b, y47 _ a, t_u_o f]
  have t2 : ∀ j, j < z2 * 9 → j ≠ v2 * 9 + 7 → j ≠ z * 9 + 4 → j ≠ z * 9 + 5 → t_u T5 (v4 * 9 + 7) v5 j = T2 j := fun j a b f g => by rw [t3 j (by omega) (by omega) b, y37 _ a, t_u_o f, t_u_o g]
  have e2 : t_u T5 (v4 * 9 + 7) v5 (z * 9 + 5) = v2 := by rw [t3 _ (by omega) (by omega) (by omega), y37 _ (by omega), t_u_o (by omega), t_u_s rfl]
  have e4 : t_u T5 (v4 * 9 + 7) v5 (z * 9 + 4) = z_r (tk p2) := by rw [t3 _ (by omega) (by omega) (by omega), y37 _ (by omega), t_u_s rfl]
  have nx2 : t_nx (t_u T5 (v4 * 9 + 7) v5) v2 = v3 := by
    unfold t_nx
    rw [t4 _ (by omega) (by omega) (by omega), y47 _ (by omega), t_u_s rfl, if_pos (by omega)]
  have nx3 : t_nx (t_u T5 (v4 * 9 + 7) v5) v3 = v4 := by
    unfold t_nx
    rw [t_u_o (by omega), y57 _ (by omega), t_u_s rfl, if_pos (by omega)]
  have nx4 : t_nx (t_u T5 (v4 * 9 + 7) v5) v4 = v5 := by
    unfold t_nx
    rw [t_u_s rfl, if_pos (by omega)]
  have ec2 : e_c (e_n M7 (t_u T5 (v4 * 9 + 7) v5)) (e_D z z5 z) (M5 81 21) r2 v2 := e_cc gG2 hn2 ⟨y25, y26⟩ (by omega) (fun j a b q1 q2 => t2 j b q1 (by omega) (by omega)) (fun x a b => ⟨⟨by omega, by omega⟩, by omega⟩) (by omega)
  have ec3 : e_c (e_n M7 (t_u T5 (v4 * 9 + 7) v5)) (e_D z z5 z) (M5 81 21) r3 v3 := e_cc gG3 hn3 ⟨y35, y36⟩ (by omega) (fun j a b q1 q2 => t3 j b q1 (by omega)) (fun x a b => ⟨⟨by omega, by omega⟩, by omega⟩) (by omega)
  have ec4 : e_c (e_n M7 (t_u T5 (v4 * 9 + 7) v5)) (e_D z z5 z) (M5 81 21) r4 v4 := e_cc gG4 hn4 ⟨y45, y46⟩ (by omega) (fun j a b q1 q2 => t4 j b q1 (by omega)) (fun x a b => ⟨⟨by omega, by omega⟩, by omega⟩) (by omega)
  have ec5 : e_c (e_n M7 (t_u T5 (v4 * 9 + 7) v5)) (e_D z z5 z) (M5 81 21) r5 v5 := e_cc gG5 hn5 ⟨y55, y56⟩ (by omega) (fun j a b q1 q2 => t_u_o (by omega)) (fun x a b => ⟨⟨by omega, by omega⟩, by omega⟩) (by omega)
  have zr := z_r_c (tk p2)
  refine qO_r hO (qT_F5 s1 g4) g4.1.1 g4.1.2.1 hR7 (by omega) (by omega) (e_n_fo ⟨⟨by omega, by rw [g4.1.2.2]; omega, by have := hR7.1.2.1 10 (by decide) (by decide) (by decide) (by decide) (by decide) (by decide) (by decide) (by decide) (by decide) (by decide) (by decide); have := hM5.2.2.1.2.1 10 (by decide) (by decide) (by decide) (by decide) (by decide) (by decide) (by decide) (by decide) (by decide) (by decide) (by decide); omega⟩, ?_, .inr (.inr (.inr (.inr (.inr (.inr (.inr (.inr (.inr (.inr (.inl ⟨g4.2.1.1, ?_, ?_, ?_, ?_, ?_, ?_, ?_⟩))))))))))⟩)
  · rw [g4.2.1.2.2.2.2.2.2, t2 _ (by omega) (by omega) (by omega) (by omega), y27 _ (by omega), t_ad_1 rfl]
  · rw [t2 _ (by omega) (by omega) (by omega) (by omega), y27 _ (by omega), t_ad_0 rfl]
  · rw [g4.2.1.2.1, e4]
  · rw [g4.2.1.2.1]; omega
  · rw [g4.2.1.2.2.1, e2]; exact ec2
  · rw [g4.2.1.2.2.2.1, e2, nx2]; exact ec3
  · rw [g4.2.1.2.2.2.2.1, e2, nx2, nx3]; exact ec4
  · rw [g4.2.1.2.2.2.2.2.1, e2, nx2, nx3, nx4]; exact ec5
/-- a sum, and what may be put behind it -/
theorem c_put (H : qH eX tk c prev dp 1 d Q ρ e M R sl k p z o M1) (hP : qXo eX tk c 2 (g_sum tk prev) dp) (ht : ¬ z_W (tk p) 12468) (ht1 : ¬ z_W (tk p) 294) (h : g_b (g_sum tk prev p z T) (fun p1 z1 T1 v o => (T1 (v * 9 + 0) = 3 ∧ z_M (tk p1) 1 ∧ g_b (prev 1 (p1 + 1) z1 T1) (fun p2 z2 T2 u o => o = .inr (p2, z2, t_u (t_u T2 (T1 (v * 9 + 5) * 9 + 7) u) (v * 9 + 0) 4, v)) o) ∨ (¬ (T1 (v * 9 + 0) = 3 ∧ z_M (tk p1) 1) ∧ o = .inr (p1, z1, T1, v))) o) : xm_J tb_P eX tb_K0 174 (d + 13) 45 Q 11 [(0, .inr (.inr (some 82)))] [] (ρ, e, M1, R, sl) := by
  obtain ⟨hM, hc⟩ := qH_M H
  have H' := H
  obtain ⟨⟨hS, hE, hz⟩, ⟨hL, hG⟩, hd, ⟨hT, hB, hk, k0, k1⟩, hO, hE1⟩ := H
  have hp := qT_p hT
  refine qM_45 (w := 1) hE (by decide) (by omega) hM (q_50c (d := d + 9) hE hS hM.1 hM.2.1.1 (by omega) hM.2.1.2.2.1 hM.2.1.2.2.2.1 (by omega) ht ht1 (fun M' g1 => ⟨rfl, ?_⟩))
  have hMN := qM_J (st' := 7) hM (qT_c (q := 120) (k := k) (v := 7) hM.1 (by omega)) (qJ_u (by omega)) (x_up_p (by decide)) (x_up_p (by decide)) (x_up_p (by decide)) (x_up_s rfl)
  generalize x_up M1 120 k 7 = N at *
  have hBN : qBn c N p := qBn_R hB hMN.2.2 (by omega) (by omega)
  rcases h with ⟨a, h1, rfl⟩ | ⟨p2, z2, T2, v2, h1, h⟩
  · exact hP (p) (z) (T) _ (by omega) h1 d ρ e N R sl Q (k + 1) hMN.1 hBN hMN.2.1.1 (by omega) (by omega) (fun M9 w1 w2 w3 => qO_w hO w1 w2 (qGn_tr hMN.2.2.1 w3)) M' (fun _ => g1) (fun h => absurd h (by omega))
  have y0 := g_sum_ok hS hG (p := p) (z := z) (by omega) (by omega) (by omega) h1
  have pl := g_sum_1 hS hG (p := p) (z := z) (by omega) (by omega) (by omega) h1
  obtain ⟨y21, y22, y23, y24, y25, y26, y27, y28, y29⟩ := y0
  refine hP (p) (z) (T) _ (by omega) h1 d ρ e N R sl Q (k + 1) hMN.1 hBN hMN.2.1.1 (by omega) (by omega) (fun M2 r2 hT2 hk2 hr2 hG2 hF2 hD2 hn2 => ?_) M' (fun _ => g1) (fun h => absurd h (by omega))
  clear g1 h1
  have hM2 := qM_b hMN hT2 hk2 hG2 hF2 hD2
  have f2 : ∀ x, 119 ≤ x → x ≤ 126 → M2 x k = N x k := fun x a b => hF2.1 x k a b (by omega)
  have hB2 := qBn_R hB hM2.2.2 (p' := p2) (by omega) (by omega)
  have hb2 := hB2.2.1
  have hb2' := (e_n_b hn2).1
  have k3 := e_n_3 hn2
  rcases h with ⟨h3, h1m, h⟩ | ⟨h3, ho⟩
  · have h96 := k3.mpr h3
    have hlt2 : p2 < c := z_M_lt hS (by omega) h1m
    obtain ⟨x1, x2, ⟨x3, x3'⟩, x4, x5, x6⟩ := e_n_3u hn2 h96
    refine qM_45 (w := 1) hE (by decide) (by omega) hM2 (q_50j (d := d + 9) hE hS hT2 hM2.2.1.1 (by omega) hM2.2.1.2.2.1 hM2.2.1.2.2.2.1 (by omega) hr2 (by omega) h96 h1m (fun N2 j1 j2 j3 m4 m5 M' g1 g2 => ⟨rfl, ?_⟩))
    have cx2 : ∀ x, x ≠ 81 ∧ x ≠ 120 ∧ x ≠ 122 → N2 x = M2 x := fun x a => m5 x a.1 a.2.1 a.2.2
    have hMN2 := qM_J (st' := 8) hM2 j1 j2 (by rw [cx2 119 (by decide)]) (by rw [cx2 121 (by decide)]) (by rw [cx2 126 (by decide)]) j3
    have hBN : qBn c N2 (p2 + 1) := qBn_R hB hMN2.2.2 (by omega) (by omega)
    rcases h with ⟨a, h1, rfl⟩ | ⟨p3, z3, T3, v3, h1, h⟩
    · exact hL 1 (p2 + 1) (z2) (T2) _ (by decide) (by omega) h1 d ρ e N2 R sl Q (k + 1) hMN2.1 hBN hMN2.2.1.1 (by omega) (by omega) (fun M9 w1 w2 w3 => qO_w hO w1 w2 (qGn_tr hMN2.2.2.1 w3)) M' g1 g2
    have y0 := hG 1 (p2 + 1) (z2) (T2) _ (by decide) (by omega) (by omega) (by omega) h1
    obtain ⟨y31, y32, y33, y34, y35, y36, y37, y38, y39⟩ := y0
    refine hL 1 (p2 + 1) (z2) (T2) _ (by decide) (by omega) h1 d ρ e N2 R sl Q (k + 1) hMN2.1 hBN hMN2.2.1.1 (by omega) (by omega) (fun M3 r3 hT3 hk3 hr3 hG3 hF3 hD3 hn3 => ?_) M' g1 g2
    clear g1 h1
    have hM3 := qM_b hMN2 hT3 hk3 hG3 hF3 hD3
    have f3 : ∀ x, 119 ≤ x → x ≤ 126 → M3 x k = N2 x k := fun x a b => hF3.1 x k a b (by omega)
    have hB3 := qBn_R hB hM3.2.2 (p' := p3) (by omega) (by omega)
    have hb3 := hB3.2.1
    subst h
    have c122 : M3 122 k = r2 := by rw [f3 122 (by omega) (by omega)]; exact m4
    have gG23 : qGn M2 M3 := qGn_tr (qGn_J j2) hG3
    have n23 := gG23.2.2.1.1
    refine qM_45 (w := 1) hE (by decide) (by omega) hM3 (q_50l (d := d + 9) hE hM3.2.1.1 (by omega) hM3.2.1.2.2.1 hr3 c122 (by omega) rfl rfl hM3.2.1.2.2.2.2 rfl (by omega) (fun M4 g4 => ⟨rfl, ?_⟩))
    have hR4 := qR_tr hM3.2.2 (qR_F (l := k) rfl g4)
    have gG3 : qGn M3 M4 := qGn_F rfl g4
    have gG2 : qGn M2 M4 := qGn_tr gG23 gG3
    have m97 : M3 97 r2 = M2 97 r2 := gG23.2.2.1.2 97 r2 (by omega) (by omega) hb2'.2.1
    have m98 : M3 98 r2 = M2 98 r2 := gG23.2.2.1.2 98 r2 (by omega) (by omega) hb2'.2.1
    have xf := x3.1
    have xn := x3.2
    generalize hf : T2 (v2 * 9 + 5) = f at *
    have tl : ∀ j, j < z2 * 9 → j ≠ f * 9 + 7 → j ≠ v2 * 9 + 0 → t_u (t_u T3 (f * 9 + 7) v3) (v2 * 9 + 0) 4 j = T2 j := fun j a b g => by rw [t_u_o g, t_u_o b, y37 _ a]
    have nx : t_nx (t_u (t_u T3 (f * 9 + 7) v3) (v2 * 9 + 0) 4) f = v3 := by
      unfold t_nx
      rw [t_u_o (by omega), t_u_s rfl, if_pos (by omega)]
    have ec2 : e_c (e_n M4 (t_u (t_u T3 (f * 9 + 7) v3) (v2 * 9 + 0) 4)) (e_D z z3 v2) (M3 81 21) (M2 98 r2) f := by
      refine ⟨⟨⟨⟨by omega, by omega⟩, xn⟩, x3'⟩, e_n_d (fun x hx => ⟨⟨⟨hx.1.1.1, by have := hx.1.1.2; omega⟩, hx.1.2⟩, hx.2⟩) (e_n_t (qN_G gG2) (fun x hx i a b => ?_) (fun i a b => ?_) x4), x5, by omega⟩
      · have q1 := hx.1.1
        have q2 := hx.1.2
        have q3 := hx.2
        exact tl _ (by omega) (by omega) (by omega)
      · exact tl _ (by omega) (by omega) (by omega)
    have ec3 : e_c (e_n M4 (t_u (t_u T3 (f * 9 + 7) v3) (v2 * 9 + 0) 4)) (e_D z z3 v2) (M3 81 21) r3 v3 := e_cc gG3 hn3 ⟨y35, y36⟩ (by omega) (fun j a b q1 q2 => by rw [t_u_o (by omega), t_u_o (by omega)]) (fun x a b => ⟨⟨by omega, by omega⟩, by omega⟩) (Int.le_refl _)
    have e5 : t_u (t_u T3 (f * 9 + 7) v3) (v2 * 9 + 0) 4 (v2 * 9 + 5) = f := by rw [tl _ (by omega) (by omega) (by omega)]; exact hf
    refine qO_r hO (qT_F hT3 g4) g4.1.1 g4.1.2.1 hR4 (by omega) (by omega) (e_n_fo ⟨⟨by omega, by rw [g4.1.2.2]; omega, by have := hR4.1.2.1 10 (by decide) (by decide) (by decide) (by decide) (by decide) (by decide) (by decide) (by decide) (by decide) (by decide) (by decide); have := hM3.2.2.1.2.1 10 (by decide) (by decide) (by decide) (by decide) (by decide) (by decide) (by decide) (by decide) (by decide) (by decide) (by decide); omega⟩, ?_, .inr (.inr (.inr (.inl ⟨g4.2.1.1, t_u_s rfl, ?_, ?_, ?_, ?_⟩)))⟩)
    · rw [g4.2.1.2.2.2.2.2.2.1, tl _ (by omega) (by omega) (by omega)]; exact pl.symm
    · rw [g4.2.1.2.1, m97, tl _ (by omega) (by omega) (by omega)]; exact x1
    · rw [tl _ (by omega) (by omega) (by omega), tl _ (by omega) (by omega) (by omega)]; exact x2
    · rw [g4.2.1.2.2.1, m98, e5]; exact ec2
    · rw [g4.2.1.2.2.2.1, e5, nx]; exact ec3
  · subst ho
    exact qM_45 (w := 1) hE (by decide) (by omega) hM2 (q_50k (d := d + 9) hE hS hT2 hM2.2.1.1 (by omega) hM2.2.1.2.2.1 hr2 (by omega) (fun h => h3 ⟨k3.mp h.1, h.2⟩) ⟨rfl, qO_g hO hM2 (by omega) (by omega) hn2⟩)
theorem qX_step (hE : ∀ j, (eX j).1 ≤ 1000000) (hS : t_S tk c) (hL : qL eX tk c prev (dp + 1)) (hG : g_ok c prev) (hd : 1 ≤ dp ∧ dp ≤ 12) (hP : qXo eX tk c 2 (g_sum tk prev) dp) : qXo eX tk c 1 (g_step tk prev) dp := by
  intro p z T o hz h d ρ e M R sl Q k hT hB hk k0 k1 hO M1 h1 h2
  have H : qH eX tk c prev dp 1 d Q ρ e M R sl k p z o M1 := ⟨⟨hS, hE, hz⟩, ⟨hL, hG⟩, hd, ⟨hT, hB, hk, k0, k1⟩, hO, h1 hd.2⟩
  rcases h with ⟨a, b⟩ | ⟨a, b⟩ | ⟨a, a1, b⟩
  · exact c_let H a b
  · exact c_if H hP a b
  · exact c_put H hP a a1 b
/-- one level more -/
theorem qL_s (hE : ∀ j, (eX j).1 ≤ 1000000) (hS : t_S tk c) {n : Nat} (hd : 1 ≤ dp ∧ dp ≤ 12) (hL : qL eX tk c (g_R tk n) (dp + 1)) : qL eX tk c (g_R tk (n + 1)) dp := by
  have hG := g_R_ok hS n
  have x4 := qX_part hE hS hL hG hd
  have x3 := qX_prod hE hS hL hG hd x4
  have x2 := qX_sum hE hS hL hG hd x3
  have x1 := qX_step hE hS hL hG hd x2
  have x0 := qX_steps hE hS hL hG hd x1
  intro w p z T o hw hz h
  have hc5 : w = 0 ∨ w = 1 ∨ w = 2 ∨ w = 3 ∨ w = 4 := by omega
  rcases hc5 with rfl | rfl | rfl | rfl | rfl
  · exact x0 p z T o hz h
  · exact x1 p z T o hz h
  · exact x2 p z T o hz h
  · exact x3 p z T o hz h
  · exact x4 p z T o hz h
theorem qL_all (hE : ∀ j, (eX j).1 ≤ 1000000) (hS : t_S tk c) : ∀ n : Nat, n ≤ 12 → qL eX tk c (g_R tk n) (13 - n)
  | 0, _ => qL_0
  | n + 1, h => by
    have := qL_all hE hS n (by omega)
    refine qL_s hE hS (dp := 13 - ((n + 1 : Nat) : Int)) (by omega) ?_
    rw [show 13 - ((n + 1 : Nat) : Int) + 1 = 13 - (n : Int) by omega]
    exact this
end

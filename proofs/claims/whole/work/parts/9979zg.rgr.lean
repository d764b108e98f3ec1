/-! THE REFERENCE READS BY THE GRAMMAR: products, sums, steps -/
theorem qGn_g {A : Nat → Int → Int} {r k : Int} : qGn A (x_up (x_up A 81 61 r) 81 51 k) := by
  have f : ∀ j, j ≠ 51 → j ≠ 61 → A 81 j ≤ x_up (x_up A 81 61 r) 81 51 k 81 j := fun j a b => by rw [x_up_o a, x_up_o b]; exact Int.le_refl _
  have g : ∀ x, x ≠ 81 → x_up (x_up A 81 61 r) 81 51 k x = A x := fun x a => by rw [x_up_ne a, x_up_ne a]
  exact ⟨fun x a _ => g x a, fun j q1 q2 q3 q4 q5 q6 q7 q8 q9 q10 q11 => by rw [x_up_o q10, x_up_o q11], ⟨f 21 (by decide) (by decide), fun x i p q _ => by rw [g x (by omega)]⟩, ⟨f 30 (by decide) (by decide), fun x i p q _ => by rw [g x (by omega)]⟩, ⟨f 34 (by decide) (by decide), fun x i p q _ => by rw [g x (by omega)]⟩, ⟨f 38 (by decide) (by decide), fun x i p q _ => by rw [g x (by omega)]⟩, ⟨f 42 (by decide) (by decide), fun x i p q _ => by rw [g x (by omega)]⟩, f 48 (by decide) (by decide), fun i _ => by rw [g 118 (by decide)]⟩
theorem qR_g {A : Nat → Int → Int} {r k l : Int} : qR l 0 0 A (x_up (x_up A 81 61 r) 81 51 k) := qR_0 qGn_g ⟨fun x i a b _ => by rw [x_up_p (by omega), x_up_p (by omega)], fun i _ => by rw [x_up_p (by decide), x_up_p (by decide)]⟩ (fun j hj => by rw [x_up_o (by omega), x_up_o (by omega)])
theorem eC_b {kd lo node zc last r : Int} {b : Prop} {M : Nat → Int → Int} {T : Int → Int} (h : eCo kd lo node b M T zc last r) : (0 ≤ r ∧ r < M 81 21) ∧ (lo ≤ last ∧ last < zc ∧ 1 ≤ last) ∧ node < zc := by
  obtain ⟨r0, f0, M0, T0, a1, a2, a3, a4, a5, ⟨a6, a7, a8⟩, ⟨b1, b2, b3, b4, b5⟩, a10, a11, a12, a13⟩ := h
  exact ⟨⟨a12.1, a12.2.1⟩, ⟨b1, b2, b4⟩, a11⟩
section
variable {ρ : Nat → Option xk} {e sl d : Nat} {M : Nat → Int → Int} {R : Nat → Int → Option Nat} {eX : Nat → Nat × (Nat → Int32)} {Q : xK}
variable {tk : Int → t_t} {c p z k dp : Int} {prev : g_T} {o : g_o} {M1 : Nat → Int → Int} {T : Int → Int}
theorem qT_g {A : Nat → Int → Int} {r q : Int} (hT : qT tk c A q) : qT tk c (x_up (x_up A 81 61 r) 81 51 k) q := qT_up hT ⟨hT.2.1.1, hT.2.1.2.1⟩ (by rw [x_up_o (by decide), x_up_o (by decide)]; exact hT.2.2.1) (by rw [x_up_o (by decide), x_up_o (by decide)]; exact hT.2.2.2) (fun x hx => by rw [x_up_ne (by omega), x_up_ne (by omega)])
theorem qO_g {w st a0 q s u z' v r : Int} {T' : Int → Int} {A : Nat → Int → Int} (hO : qO eX tk c d Q ρ e M R sl k p z (.inr (q, z', T', v))) (hM : qM tk c k w st dp a0 q s u M A) (hs : s ≤ q - p) (hu : u + 1 ≤ q - p) (hn : e_n A T' (e_D z z' v) r v) : xm_J tb_P eX tb_K0 174 (d + 13) 45 Q 11 [(0, .inr (.inr (some 82)))] [] (ρ, e, x_up (x_up A 81 61 r) 81 51 k, R, sl) :=
  qO_r hO (qT_g hM.1) (x_up_s rfl) (by rw [x_up_o (by decide), x_up_s rfl]) (qR_tr hM.2.2 qR_g) (by omega) (by omega) (e_n_t (qN_G qGn_g) (fun _ _ _ _ _ => rfl) (fun _ _ _ => rfl) hn)
theorem qM_K {w st a0 q s u n kd a b cc at' : Int} {N M4 : Nat → Int → Int} (hM : qM tk c k w st dp a0 q s u M N) (hn : N 81 21 = n) (h : qK n kd a b cc at' N M4) : qM tk c k w st dp a0 q (s + 1) u M M4 := by
  obtain ⟨h0, ⟨a1, a2, a3, a4, a5⟩, a6⟩ := hM
  have f : ∀ x, 119 ≤ x → M4 x = N x := fun x a => h.2.2.1 x (by omega) (by omega)
  refine ⟨qT_K h0 h, ⟨(h.2.2.2.1 51 (by decide)).trans a1, by rw [f 119 (by omega)]; exact a2, by rw [f 120 (by omega)]; exact a3, by rw [f 121 (by omega)]; exact a4, by rw [f 126 (by omega)]; exact a5⟩, ?_⟩
  have := qR_tr a6 (qR_K (l := k) hn h)
  rw [Int.add_zero] at this
  exact this
theorem qM_u {w st a0 q s u v : Int} {y : Nat} {N : Nat → Int → Int} (hM : qM tk c k w st dp a0 q s u M N) (hy : y = 122 ∨ y = 123 ∨ y = 124 ∨ y = 125) : qM tk c k w st dp a0 q s u M (x_up N y k v) := qM_J hM (qT_c hM.1 (by omega)) (qJ_u (by omega)) (x_up_p (by omega)) (x_up_p (by omega)) (x_up_p (by omega)) (by rw [x_up_p (by omega)]; exact hM.2.1.2.2.1)
theorem qM_n {w st a0 q s u : Int} {N : Nat → Int → Int} (hM : qM tk c k w st dp a0 q s u M N) (hq : q < c) : qM tk c k w st dp a0 (q + 1) s u M (x_up N 81 6 (q + 1)) := qM_J hM (qT_nx hM.1 hq).1 qJ_6 (x_up_p (by decide)) (x_up_p (by decide)) (x_up_p (by decide)) (by rw [x_up_p (by decide)]; exact hM.2.1.2.2.1)
/-- one more of them, or the end -/
theorem c_pk (H : qH eX tk c prev dp 3 d Q ρ e M R sl k p z o M1) (hP : qXo eX tk c 4 (g_part tk prev) dp) {node : Int} (hno : z < node) : ∀ (m : Nat) (q zc : Int) (T : Int → Int) (last r s u : Int) (b : Prop) (M2 : Nat → Int → Int), g_pk tk prev node m q zc T last o → qM tk c k 3 1 dp (tk p).2.1 q s u M M2 → M2 122 k = r → s ≤ q - p → u + 1 ≤ q - p → eCo 12 z node b M2 T zc last r → (b ∨ z_M (tk q) 42 ∨ z_M (tk q) 47) → xm_J tb_P eX tb_K0 174 (d + 12) 52 (fun o s' => o = .inl none ∧ xm_J tb_P eX tb_K0 174 (d + 13) 45 Q 11 [(0, .inr (.inr (some 82)))] [] s') 78 [(0, .inr (.inr (some 82))), (1, .inl k)] [] (ρ, e, M2, R, sl) := by
  have H' := H
  obtain ⟨⟨hS, hE, hz⟩, ⟨hL, hG⟩, hd, ⟨hT, hB, hk, k0, k1⟩, hO, hE1⟩ := H
  have hp := qT_p hT
  intro m
  induction m with
  | zero =>
    intro q zc T last r s u b M2 h hM2 hr hs hu hC hq
    obtain ⟨h1, h2, ho⟩ := h
    obtain rfl : b = True := eq_true (by rcases hq with hq | hq | hq; exact hq; exact absurd hq h1; exact absurd hq h2)
    subst ho
    exact l_52e (d := d + 10) hE hS hM2.1 hM2.2.1.1 (by omega) hr h1 h2 ⟨rfl, qO_g hO hM2 hs hu (eC_e hC)⟩
  | succ m ih =>
    intro q zc T last r s u b M2 h hM2 hr hs hu hC hq
    have hc := eC_b hC
    have hq0 := qT_p hM2.1
    have hB2 := qBn_R hB hM2.2.2 (p' := q) (by omega) (by omega)
    have hb2 := hB2.2.1
    rcases h with ⟨h42, h⟩ | ⟨h47, h⟩
    · have hlt : q < c := z_M_lt hS (by omega) h42
      refine l_52m (d := d + 10) hE hS hM2.1 hM2.2.1.1 (by omega) hM2.2.1.2.2.2.1 (by omega) h42 (fun M' g => ⟨rfl, ?_⟩)
      have hMN := qM_n hM2 hlt
      have gN : qGn M2 (x_up M2 81 6 (q + 1)) := qGn_P (qT_nx hM2.1 hlt).2
      have n122 : (x_up M2 81 6 (q + 1)) 122 k = r := by rw [x_up_p (by decide)]; exact hr
      generalize x_up M2 81 6 (q + 1) = N at *
      have hBN : qBn c N (q + 1) := qBn_R hB hMN.2.2 (by omega) (by omega)
      rcases h with ⟨a, h1, rfl⟩ | ⟨p1, z1, T1, v, h1, h2⟩
      · exact hP (q + 1) zc T _ (by omega) h1 d ρ e N R sl Q (k + 1) hMN.1 hBN hMN.2.1.1 (by omega) (by omega) (fun M3 w1 w2 w3 => qO_w hO w1 w2 (qGn_tr hMN.2.2.1 w3)) M' (fun _ => g) (fun h => absurd h (by omega))
      have y0 := g_part_ok hS hG (p := q + 1) (z := zc) (by omega) (by omega) (by omega) h1
      obtain ⟨y1, y2, y3, y4, y5, y6, y7, y8, y9⟩ := y0
      refine hP (q + 1) zc T _ (by omega) h1 d ρ e N R sl Q (k + 1) hMN.1 hBN hMN.2.1.1 (by omega) (by omega) (fun M3 ra hT3 hk3 hr3 hG3 hF3 hD3 hn3 => ?_) M' (fun _ => g) (fun h => absurd h (by omega))
      have hM3 := qM_b hMN hT3 hk3 hG3 hF3 hD3
      have r3 : M3 122 k = r := by rw [hF3.1 122 k (by omega) (by omega) (by omega)]; exact n122
      have g3 : qGn M2 M3 := qGn_tr gN hG3
      have hB3 := qBn_R hB hM3.2.2 (p' := p1) (by omega) (by omega)
      have hb3 := hB3.2.1
      have m3 := g3.2.2.1.1
      refine qM_45 (w := 3) hE (by decide) (by omega) hM3 (q_52c (d := d + 10) hE (by omega) hM3.2.1.2.2.1 r3 (by omega) hr3 rfl rfl (by omega) (fun M4 g4 => ?_))
      have hM4 := qM_u (y := 122) (v := M3 81 21) (qM_K hM3 rfl g4) (by omega)
      have g5 : qGn M3 (x_up M4 122 k (M3 81 21)) := qGn_tr (qGn_K rfl g4) (qGn_J (qJ_u (k := k) (q := 122) (by omega)))
      have c5 : ∀ x, x ≠ 122 → x_up M4 122 k (M3 81 21) x = M4 x := fun x hx => x_up_ne hx
      have k21 : x_up M4 122 k (M3 81 21) 81 21 = M3 81 21 + 1 := by rw [c5 81 (by decide)]; exact g4.1
      have k96 : x_up M4 122 k (M3 81 21) 96 (M3 81 21) = 10 := by rw [c5 96 (by decide)]; exact g4.2.1.1
      have k97 : x_up M4 122 k (M3 81 21) 97 (M3 81 21) = r := by rw [c5 97 (by decide)]; exact g4.2.1.2.1
      have k98 : x_up M4 122 k (M3 81 21) 98 (M3 81 21) = ra := by rw [c5 98 (by decide)]; exact g4.2.1.2.2.1
      have k102 : x_up M4 122 k (M3 81 21) 102 (M3 81 21) = M2 102 r := by rw [c5 102 (by decide), g4.2.1.2.2.2.2.2.2.1]; exact g3.2.2.1.2 102 r (by omega) (by omega) hc.1.2
      have k122 : x_up M4 122 k (M3 81 21) 122 k = M3 81 21 := x_up_s rfl
      generalize x_up M4 122 k (M3 81 21) = A at *
      refine ih p1 z1 _ v (M3 81 21) _ _ True A h2 hM4 k122 (by omega) (by omega) (eC_s hC (qGn_tr g3 g5) (fun j a => y7 j a) ⟨y5, y6⟩ y8 (fun j a b => by rw [t_u_o b, t_u_o a]) (by rw [t_u_o (by omega), t_u_s rfl]) ⟨by omega, by omega⟩ k97 k102 (fun M' T' hi' e1 e2 e3 => ?_)) (.inl trivial)
      have h96 : M' 96 (M3 81 21) = 10 := by rw [e1.2.2.1.2 96 _ (by omega) (by omega) (by omega)]; exact k96
      have h98 : M' 98 (M3 81 21) = ra := by rw [e1.2.2.1.2 98 _ (by omega) (by omega) (by omega)]; exact k98
      have ec : e_c (e_n M' T') (e_D z hi' node) (M3 81 21) (M' 98 (M3 81 21)) v := by
        rw [h98]
        exact e_oc hn3 g5 e1 ⟨y5, y6⟩ (by omega) (Int.le_refl _) (fun j a b => by rw [t_u_o b, t_u_o (by omega)]) e2 e3 (by omega)
      have h8 : T' (v * 9 + 8) = 42 := by rw [e2 v (by omega) (by omega) (by omega) 8 (by omega) (by omega) (by omega)]; exact t_u_s rfl
      exact .inr (.inl ⟨rfl, h8, h96, ec⟩)
    · have hlt : q < c := z_M_lt hS (by omega) h47
      rcases h with ⟨h4, h0, h⟩ | ⟨h4, ho⟩
      · have hlt1 : q + 1 < c := z_lt hS (by omega) (by rw [h4]; decide)
        obtain ⟨u1, u2, u3, u4⟩ := z_nv hS (p := q + 1) (by omega) h4
        refine l_52d (d := d + 10) hE hS hM2.1 (by omega) hr (by omega) rfl rfl (by omega) h47 h4 h0 (fun M4 g4 => ?_)
        have hMN := qM_n hM2 hlt
        have nn : x_up M2 81 6 (q + 1) 81 21 = M2 81 21 := x_up_o (by decide)
        have gN : qGn M2 (x_up M2 81 6 (q + 1)) := qGn_P (qT_nx hM2.1 hlt).2
        have hM4 := qM_n (qM_u (y := 122) (v := M2 81 21) (qM_K hMN nn g4) (by omega)) hlt1
        rw [show q + 1 + 1 = q + 2 by omega] at hM4
        have g5 : qGn M2 (x_up (x_up M4 122 k (M2 81 21)) 81 6 (q + 2)) := qGn_tr gN (qGn_tr (qGn_K nn g4) (qGn_tr (qGn_J (qJ_u (k := k) (q := 122) (by omega))) (qGn_J (qJ_6 (k := k)))))
        have c5 : ∀ x, x ≠ 81 → x ≠ 122 → x_up (x_up M4 122 k (M2 81 21)) 81 6 (q + 2) x = M4 x := fun x hx hy => by rw [x_up_ne hx, x_up_ne hy]
        have k21 : x_up (x_up M4 122 k (M2 81 21)) 81 6 (q + 2) 81 21 = M2 81 21 + 1 := by rw [x_up_o (by decide), x_up_p (by decide)]; exact g4.1
        have k96 : x_up (x_up M4 122 k (M2 81 21)) 81 6 (q + 2) 96 (M2 81 21) = 11 := by rw [c5 96 (by decide) (by decide)]; exact g4.2.1.1
        have k97 : x_up (x_up M4 122 k (M2 81 21)) 81 6 (q + 2) 97 (M2 81 21) = r := by rw [c5 97 (by decide) (by decide)]; exact g4.2.1.2.1
        have k98 : x_up (x_up M4 122 k (M2 81 21)) 81 6 (q + 2) 98 (M2 81 21) = (tk (q + 1)).2.2.1 := by rw [c5 98 (by decide) (by decide)]; exact g4.2.1.2.2.1
        have k102 : x_up (x_up M4 122 k (M2 81 21)) 81 6 (q + 2) 102 (M2 81 21) = M2 102 r := by rw [c5 102 (by decide) (by decide)]; exact g4.2.1.2.2.2.2.2.2.1
        have k122 : x_up (x_up M4 122 k (M2 81 21)) 81 6 (q + 2) 122 k = M2 81 21 := by rw [x_up_p (by decide), x_up_s rfl]
        generalize x_up (x_up M4 122 k (M2 81 21)) 81 6 (q + 2) = A at *
        refine ih (q + 2) (zc + 1) _ zc (M2 81 21) _ _ True A h hM4 k122 (by omega) (by omega) (eC_s (T1 := t_u (t_ad T zc 1 (tk (q + 1)).2.1) (zc * 9 + 4) (tk (q + 1)).2.2.1) hC g5 (fun j a => by rw [t_u_o (by omega), t_ad_lo a]) ⟨Int.le_refl _, by omega⟩ (by rw [t_u_o (by omega), t_ad_z (by omega)]) (fun j a b => by rw [t_u_o b, t_u_o a]) (by rw [t_u_o (by omega), t_u_s rfl]) ⟨Int.le_refl _, by omega⟩ k97 k102 (fun M' T' hi' e1 e2 e3 => ?_)) (.inl trivial)
        have h96 : M' 96 (M2 81 21) = 11 := by rw [e1.2.2.1.2 96 _ (by omega) (by omega) (by omega)]; exact k96
        have h98 : M' 98 (M2 81 21) = (tk (q + 1)).2.2.1 := by rw [e1.2.2.1.2 98 _ (by omega) (by omega) (by omega)]; exact k98
        have h8 : T' (zc * 9 + 8) = 47 := by rw [e2 zc (by omega) (by omega) (by omega) 8 (by omega) (by omega) (by omega)]; exact t_u_s rfl
        have h40 : T' (zc * 9 + 0) = 1 := by rw [e2 zc (by omega) (by omega) (by omega) 0 (by omega) (by omega) (by omega), t_u_o (by omega), t_u_o (by omega), t_u_o (by omega), t_ad_0 rfl]
        have h44 : T' (zc * 9 + 4) = (tk (q + 1)).2.2.1 := by rw [e2 zc (by omega) (by omega) (by omega) 4 (by omega) (by omega) (by omega), t_u_o (by omega), t_u_o (by omega), t_u_s rfl]
        exact .inr (.inr (.inl ⟨rfl, ⟨h8, h40⟩, h96, by rw [h98, h44], by omega, by omega⟩))
      · subst ho
        exact l_52n (d := d + 10) hE hS hM2.1 (by omega) h47 h4 (fun M' w1 w2 w3 => ⟨rfl, qO_w hO w1 w2 (qGn_tr hM2.2.2.1 w3)⟩)
theorem qX_prod (hE : ∀ j, (eX j).1 ≤ 1000000) (hS : t_S tk c) (hL : qL eX tk c prev (dp + 1)) (hG : g_ok c prev) (hd : 1 ≤ dp ∧ dp ≤ 12) (hP : qXo eX tk c 4 (g_part tk prev) dp) : qXo eX tk c 3 (g_prod tk prev) dp := by
  intro p z T o hz h d ρ e M R sl Q k hT hB hk k0 k1 hO M1 h1 h2
  have H : qH eX tk c prev dp 3 d Q ρ e M R sl k p z o M1 := ⟨⟨hS, hE, hz⟩, ⟨hL, hG⟩, hd, ⟨hT, hB, hk, k0, k1⟩, hO, h1 hd.2⟩
  obtain ⟨hM, hc⟩ := qH_M H
  have hp := qT_p hT
  refine qM_45 (w := 3) hE (by decide) (by omega) hM (q_52a (d := d + 11) hE hM.1 hM.2.1.1 (by omega) hM.2.1.2.2.1 hM.2.1.2.2.2.1 (by omega) (fun M' g => ⟨rfl, ?_⟩))
  have hMN := qM_J (st' := 1) hM (qT_c (q := 120) (k := k) (v := 1) hM.1 (by omega)) (qJ_u (by omega)) (x_up_p (by decide)) (x_up_p (by decide)) (x_up_p (by decide)) (x_up_s rfl)
  have n122 : x_up M1 120 k 1 122 k = -1 := by rw [x_up_p (by decide)]; exact hc
  generalize x_up M1 120 k 1 = N at *
  have hBN : qBn c N p := qBn_R hB hMN.2.2 (by omega) (by omega)
  rcases h with ⟨a, h1, rfl⟩ | ⟨p1, z1, T1, v, h1, h2⟩
  · exact hP p z T _ hz h1 d ρ e N R sl Q (k + 1) hMN.1 hBN hMN.2.1.1 (by omega) (by omega) (fun M3 w1 w2 w3 => qO_w hO w1 w2 (qGn_tr hMN.2.2.1 w3)) M' (fun _ => g) (fun h => absurd h (by omega))
  have y0 := g_part_ok hS hG (p := p) (z := z) (by omega) (by omega) hz h1
  obtain ⟨y1, y2, y3, y4, y5, y6, y7, y8, y9⟩ := y0
  refine hP p z T _ hz h1 d ρ e N R sl Q (k + 1) hMN.1 hBN hMN.2.1.1 (by omega) (by omega) (fun M2 r hT2 hk2 hr2 hG2 hF2 hD2 hn2 => ?_) M' (fun _ => g) (fun h => absurd h (by omega))
  have hM2 := qM_b hMN hT2 hk2 hG2 hF2 hD2
  have r2 : M2 122 k = -1 := by rw [hF2.1 122 k (by omega) (by omega) (by omega)]; exact n122
  refine qM_45 (w := 3) hE (by decide) (by omega) hM2 (q_52b (d := d + 10) hE (by omega) hM2.2.1.2.2.1 r2 hr2 ?_)
  have hM3 := qM_u (y := 122) (v := r) hM2 (by omega)
  have g3 : qGn M2 (x_up M2 122 k r) := qGn_J (qJ_u (k := k) (q := 122) (by omega))
  have hn3 : e_n (x_up M2 122 k r) T1 (e_D z z1 v) r v := e_n_t (qN_G g3) (fun _ _ _ _ _ => rfl) (fun _ _ _ => rfl) hn2
  have k122 : x_up M2 122 k r 122 k = r := x_up_s rfl
  generalize x_up M2 122 k r = A at *
  rcases h2 with ⟨n1, n2, ho⟩ | ⟨hmore, m, h2⟩
  · subst ho
    exact l_52e (d := d + 10) hE hS hM3.1 hM3.2.1.1 (by omega) k122 n1 n2 ⟨rfl, qO_g hO hM3 (by omega) (by omega) hn3⟩
  · exact c_pk H hP (by omega) m p1 (z1 + 1) _ v r _ _ False A h2 hM3 k122 (by omega) (by omega) (eC_0 hn3 ⟨y5, y6, by omega⟩ y8) (.inr hmore)
/-- one more of them, or the end -/
theorem c_sk (H : qH eX tk c prev dp 2 d Q ρ e M R sl k p z o M1) (hP : qXo eX tk c 3 (g_prod tk prev) dp) {node : Int} (hno : z < node) : ∀ (m : Nat) (q zc : Int) (T : Int → Int) (last r s u : Int) (b : Prop) (M2 : Nat → Int → Int), g_sk tk prev node m q zc T last o → qM tk c k 2 1 dp (tk p).2.1 q s u M M2 → M2 122 k = r → s ≤ q - p → u + 1 ≤ q - p → eCo 11 z node b M2 T zc last r → (b ∨ ¬ z_no (tk q)) → xm_J tb_P eX tb_K0 174 (d + 12) 51 (fun o s' => o = .inl none ∧ xm_J tb_P eX tb_K0 174 (d + 13) 45 Q 11 [(0, .inr (.inr (some 82)))] [] s') 82 [(0, .inr (.inr (some 82))), (1, .inl k)] [] (ρ, e, M2, R, sl) := by
  have H' := H
  obtain ⟨⟨hS, hE, hz⟩, ⟨hL, hG⟩, hd, ⟨hT, hB, hk, k0, k1⟩, hO, hE1⟩ := H
  have hp := qT_p hT
  intro m
  induction m with
  | zero =>
    intro q zc T last r s u b M2 h hM2 hr hs hu hC hq
    obtain ⟨h1, ho⟩ := h
    obtain rfl : b = True := eq_true (by rcases hq with hq | hq; exact hq; exact absurd h1 hq)
    subst ho
    exact l_51e (d := d + 10) hE hS hM2.1 hM2.2.1.1 (by omega) hr h1.1 h1.2 ⟨rfl, qO_g hO hM2 hs hu (eC_e hC)⟩
  | succ m ih =>
    intro q zc T last r s u b M2 h hM2 hr hs hu hC hq
    have hc := eC_b hC
    have hq0 := qT_p hM2.1
    have hB2 := qBn_R hB hM2.2.2 (p' := q) (by omega) (by omega)
    have hb2 := hB2.2.1
    obtain ⟨sg, h43, h⟩ := h
    have hlt : q < c := z_pm_p hS (by omega) h43
    rcases h43 with ⟨h5, h43, -⟩ | ⟨h5, h43, -⟩
    · rw [h43] at h
      refine l_51p (d := d + 10) hE hS hM2.1 hM2.2.1.1 (by omega) hM2.2.1.2.2.2.1 (by omega) ⟨h5, h43⟩ (fun M' g => ⟨rfl, ?_⟩)
      have hMN := qM_n (qM_u (y := 123) (v := 8) hM2 (by omega)) hlt
      have gN : qGn M2 (x_up (x_up M2 123 k 8) 81 6 (q + 1)) := qGn_tr (qGn_J (qJ_u (k := k) (q := 123) (by omega))) (qGn_J (qJ_6 (k := k)))
      have n122 : (x_up (x_up M2 123 k 8) 81 6 (q + 1)) 122 k = r := by rw [x_up_p (by decide), x_up_p (by decide)]; exact hr
      have n123 : (x_up (x_up M2 123 k 8) 81 6 (q + 1)) 123 k = 8 := by rw [x_up_p (by decide), x_up_s rfl]
      generalize x_up (x_up M2 123 k 8) 81 6 (q + 1) = N at *
      have hBN : qBn c N (q + 1) := qBn_R hB hMN.2.2 (by omega) (by omega)
      rcases h with ⟨a, h1, rfl⟩ | ⟨p1, z1, T1, v, h1, h2⟩
      · exact hP (q + 1) zc T _ (by omega) h1 d ρ e N R sl Q (k + 1) hMN.1 hBN hMN.2.1.1 (by omega) (by omega) (fun M3 w1 w2 w3 => qO_w hO w1 w2 (qGn_tr hMN.2.2.1 w3)) M' (fun _ => g) (fun h => absurd h (by omega))
      have y0 := g_prod_ok hS hG (p := q + 1) (z := zc) (by omega) (by omega) (by omega) h1
      obtain ⟨y1, y2, y3, y4, y5, y6, y7, y8, y9⟩ := y0
      refine hP (q + 1) zc T _ (by omega) h1 d ρ e N R sl Q (k + 1) hMN.1 hBN hMN.2.1.1 (by omega) (by omega) (fun M3 ra hT3 hk3 hr3 hG3 hF3 hD3 hn3 => ?_) M' (fun _ => g) (fun h => absurd h (by omega))
      have hM3 := qM_b hMN hT3 hk3 hG3 hF3 hD3
      have r3 : M3 122 k = r := by rw [hF3.1 122 k (by omega) (by omega) (by omega)]; exact n122
      have r4 : M3 123 k = 8 := by rw [hF3.1 123 k (by omega) (by omega) (by omega)]; exact n123
      have g3 : qGn M2 M3 := qGn_tr gN hG3
      have hB3 := qBn_R hB hM3.2.2 (p' := p1) (by omega) (by omega)
      have hb3 := hB3.2.1
      have m3 := g3.2.2.1.1
      refine qM_45 (w := 2) hE (by decide) (by omega) hM3 (q_51c (d := d + 10) hE (by omega) hM3.2.1.2.2.1 r3 (by omega) r4 hr3 rfl rfl (by omega) (fun M4 g4 => ?_))
      have hM4 := qM_u (y := 122) (v := M3 81 21) (qM_K hM3 rfl g4) (by omega)
      have g5 : qGn M3 (x_up M4 122 k (M3 81 21)) := qGn_tr (qGn_K rfl g4) (qGn_J (qJ_u (k := k) (q := 122) (by omega)))
      have c5 : ∀ x, x ≠ 122 → x_up M4 122 k (M3 81 21) x = M4 x := fun x hx => x_up_ne hx
      have k21 : x_up M4 122 k (M3 81 21) 81 21 = M3 81 21 + 1 := by rw [c5 81 (by decide)]; exact g4.1
      have k96 : x_up M4 122 k (M3 81 21) 96 (M3 81 21) = 8 := by rw [c5 96 (by decide)]; exact g4.2.1.1
      have k97 : x_up M4 122 k (M3 81 21) 97 (M3 81 21) = r := by rw [c5 97 (by decide)]; exact g4.2.1.2.1
      have k98 : x_up M4 122 k (M3 81 21) 98 (M3 81 21) = ra := by rw [c5 98 (by decide)]; exact g4.2.1.2.2.1
      have k102 : x_up M4 122 k (M3 81 21) 102 (M3 81 21) = M2 102 r := by rw [c5 102 (by decide), g4.2.1.2.2.2.2.2.2.1]; exact g3.2.2.1.2 102 r (by omega) (by omega) hc.1.2
      have k122 : x_up M4 122 k (M3 81 21) 122 k = M3 81 21 := x_up_s rfl
      generalize x_up M4 122 k (M3 81 21) = A at *
      refine ih p1 z1 _ v (M3 81 21) _ _ True A h2 hM4 k122 (by omega) (by omega) (eC_s hC (qGn_tr g3 g5) (fun j a => y7 j a) ⟨y5, y6⟩ y8 (fun j a b => by rw [t_u_o b, t_u_o a]) (by rw [t_u_o (by omega), t_u_s rfl]) ⟨by omega, by omega⟩ k97 k102 (fun M' T' hi' e1 e2 e3 => ?_)) (.inl trivial)
      have h96 : M' 96 (M3 81 21) = 8 := by rw [e1.2.2.1.2 96 _ (by omega) (by omega) (by omega)]; exact k96
      have h98 : M' 98 (M3 81 21) = ra := by rw [e1.2.2.1.2 98 _ (by omega) (by omega) (by omega)]; exact k98
      have ec : e_c (e_n M' T') (e_D z hi' node) (M3 81 21) (M' 98 (M3 81 21)) v := by
        rw [h98]
        exact e_oc hn3 g5 e1 ⟨y5, y6⟩ (by omega) (Int.le_refl _) (fun j a b => by rw [t_u_o b, t_u_o (by omega)]) e2 e3 (by omega)
      have h8 : T' (v * 9 + 8) = 43 := by rw [e2 v (by omega) (by omega) (by omega) 8 (by omega) (by omega) (by omega)]; exact t_u_s rfl
      exact .inl ⟨rfl, .inl ⟨h8, h96⟩, ec⟩
    · rw [h43] at h
      refine l_51s (d := d + 10) hE hS hM2.1 hM2.2.1.1 (by omega) hM2.2.1.2.2.2.1 (by omega) ⟨h5, h43⟩ (fun M' g => ⟨rfl, ?_⟩)
      have hMN := qM_n (qM_u (y := 123) (v := 9) hM2 (by omega)) hlt
      have gN : qGn M2 (x_up (x_up M2 123 k 9) 81 6 (q + 1)) := qGn_tr (qGn_J (qJ_u (k := k) (q := 123) (by omega))) (qGn_J (qJ_6 (k := k)))
      have n122 : (x_up (x_up M2 123 k 9) 81 6 (q + 1)) 122 k = r := by rw [x_up_p (by decide), x_up_p (by decide)]; exact hr
      have n123 : (x_up (x_up M2 123 k 9) 81 6 (q + 1)) 123 k = 9 := by rw [x_up_p (by decide), x_up_s rfl]
      generalize x_up (x_up M2 123 k 9) 81 6 (q + 1) = N at *
      have hBN : qBn c N (q + 1) := qBn_R hB hMN.2.2 (by omega) (by omega)
      rcases h with ⟨a, h1, rfl⟩ | ⟨p1, z1, T1, v, h1, h2⟩
      · exact hP (q + 1) zc T _ (by omega) h1 d ρ e N R sl Q (k + 1) hMN.1 hBN hMN.2.1.1 (by omega) (by omega) (fun M3 w1 w2 w3 => qO_w hO w1 w2 (qGn_tr hMN.2.2.1 w3)) M' (fun _ => g) (fun h => absurd h (by omega))
      have y0 := g_prod_ok hS hG (p := q + 1) (z := zc) (by omega) (by omega) (by omega) h1
      obtain ⟨y1, y2, y3, y4, y5, y6, y7, y8, y9⟩ := y0
      refine hP (q + 1) zc T _ (by omega) h1 d ρ e N R sl Q (k + 1) hMN.1 hBN hMN.2.1.1 (by omega) (by omega) (fun M3 ra hT3 hk3 hr3 hG3 hF3 hD3 hn3 => ?_) M' (fun _ => g) (fun h => absurd h (by omega))
      have hM3 := qM_b hMN hT3 hk3 hG3 hF3 hD3
      have r3 : M3 122 k = r := by rw [hF3.1 122 k (by omega) (by omega) (by omega)]; exact n122
      have r4 : M3 123 k = 9 := by rw [hF3.1 123 k (by omega) (by omega) (by omega)]; exact n123
      have g3 : qGn M2 M3 := qGn_tr gN hG3
      have hB3 := qBn_R hB hM3.2.2 (p' := p1) (by omega) (by omega)
      have hb3 := hB3.2.1
      have m3 := g3.2.2.1.1
      refine qM_45 (w := 2) hE (by decide) (by omega) hM3 (q_51c (d := d + 10) hE (by omega) hM3.2.1.2.2.1 r3 (by omega) r4 hr3 rfl rfl (by omega) (fun M4 g4 => ?_))
      have hM4 := qM_u (y := 122) (v := M3 81 21) (qM_K hM3 rfl g4) (by omega)
      have g5 : qGn M3 (x_up M4 122 k (M3 81 21)) := qGn_tr (qGn_K rfl g4) (qGn_J (qJ_u (k := k) (q := 122) (by omega)))
      have c5 : ∀ x, x ≠ 122 → x_up M4 122 k (M3 81 21) x = M4 x := fun x hx => x_up_ne hx
      have k21 : x_up M4 122 k (M3 81 21) 81 21 = M3 81 21 + 1 := by rw [c5 81 (by decide)]; exact g4.1
      have k96 : x_up M4 122 k (M3 81 21) 96 (M3 81 21) = 9 := by rw [c5 96 (by decide)]; exact g4.2.1.1
      have k97 : x_up M4 122 k (M3 81 21) 97 (M3 81 21) = r := by rw [c5 97 (by decide)]; exact g4.2.1.2.1
      have k98 : x_up M4 122 k (M3 81 21) 98 (M3 81 21) = ra := by rw [c5 98 (by decide)]; exact g4.2.1.2.2.1
      have k102 : x_up M4 122 k (M3 81 21) 102 (M3 81 21) = M2 102 r := by rw [c5 102 (by decide), g4.2.1.2.2.2.2.2.2.1]; exact g3.2.2.1.2 102 r (by omega) (by omega) hc.1.2
      have k122 : x_up M4 122 k (M3 81 21) 122 k = M3 81 21 := x_up_s rfl
      generalize x_up M4 122 k (M3 81 21) = A at *
      refine ih p1 z1 _ v (M3 81 21) _ _ True A h2 hM4 k122 (by omega) (by omega) (eC_s hC (qGn_tr g3 g5) (fun j a => y7 j a) ⟨y5, y6⟩ y8 (fun j a b => by rw [t_u_o b, t_u_o a]) (by rw [t_u_o (by omega), t_u_s rfl]) ⟨by omega, by omega⟩ k97 k102 (fun M' T' hi' e1 e2 e3 => ?_)) (.inl trivial)
      have h96 : M' 96 (M3 81 21) = 9 := by rw [e1.2.2.1.2 96 _ (by omega) (by omega) (by omega)]; exact k96
      have h98 : M' 98 (M3 81 21) = ra := by rw [e1.2.2.1.2 98 _ (by omega) (by omega) (by omega)]; exact k98
      have ec : e_c (e_n M' T') (e_D z hi' node) (M3 81 21) (M' 98 (M3 81 21)) v := by
        rw [h98]
        exact e_oc hn3 g5 e1 ⟨y5, y6⟩ (by omega) (Int.le_refl _) (fun j a b => by rw [t_u_o b, t_u_o (by omega)]) e2 e3 (by omega)
      have h8 : T' (v * 9 + 8) = 45 := by rw [e2 v (by omega) (by omega) (by omega) 8 (by omega) (by omega) (by omega)]; exact t_u_s rfl
      exact .inl ⟨rfl, .inr ⟨h8, h96⟩, ec⟩
theorem qX_sum (hE : ∀ j, (eX j).1 ≤ 1000000) (hS : t_S tk c) (hL : qL eX tk c prev (dp + 1)) (hG : g_ok c prev) (hd : 1 ≤ dp ∧ dp ≤ 12) (hP : qXo eX tk c 3 (g_prod tk prev) dp) : qXo eX tk c 2 (g_sum tk prev) dp := by
  intro p z T o hz h d ρ e M R sl Q k hT hB hk k0 k1 hO M1 h1 h2
  have H : qH eX tk c prev dp 2 d Q ρ e M R sl k p z o M1 := ⟨⟨hS, hE, hz⟩, ⟨hL, hG⟩, hd, ⟨hT, hB, hk, k0, k1⟩, hO, h1 hd.2⟩
  obtain ⟨hM, hc⟩ := qH_M H
  have hp := qT_p hT
  refine qM_45 (w := 2) hE (by decide) (by omega) hM (q_51a (d := d + 11) hE hM.1 hM.2.1.1 (by omega) hM.2.1.2.2.1 hM.2.1.2.2.2.1 (by omega) (fun M' g => ⟨rfl, ?_⟩))
  have hMN := qM_J (st' := 1) hM (qT_c (q := 120) (k := k) (v := 1) hM.1 (by omega)) (qJ_u (by omega)) (x_up_p (by decide)) (x_up_p (by decide)) (x_up_p (by decide)) (x_up_s rfl)
  have n122 : x_up M1 120 k 1 122 k = -1 := by rw [x_up_p (by decide)]; exact hc
  generalize x_up M1 120 k 1 = N at *
  have hBN : qBn c N p := qBn_R hB hMN.2.2 (by omega) (by omega)
  rcases h with ⟨a, h1, rfl⟩ | ⟨p1, z1, T1, v, h1, h2⟩
  · exact hP p z T _ hz h1 d ρ e N R sl Q (k + 1) hMN.1 hBN hMN.2.1.1 (by omega) (by omega) (fun M3 w1 w2 w3 => qO_w hO w1 w2 (qGn_tr hMN.2.2.1 w3)) M' (fun _ => g) (fun h => absurd h (by omega))
  have y0 := g_prod_ok hS hG (p := p) (z := z) (by omega) (by omega) hz h1
  obtain ⟨y1, y2, y3, y4, y5, y6, y7, y8, y9⟩ := y0
  refine hP p z T _ hz h1 d ρ e N R sl Q (k + 1) hMN.1 hBN hMN.2.1.1 (by omega) (by omega) (fun M2 r hT2 hk2 hr2 hG2 hF2 hD2 hn2 => ?_) M' (fun _ => g) (fun h => absurd h (by omega))
  have hM2 := qM_b hMN hT2 hk2 hG2 hF2 hD2
  have r2 : M2 122 k = -1 := by rw [hF2.1 122 k (by omega) (by omega) (by omega)]; exact n122
  refine qM_45 (w := 2) hE (by decide) (by omega) hM2 (q_51b (d := d + 10) hE (by omega) hM2.2.1.2.2.1 r2 hr2 ?_)
  have hM3 := qM_u (y := 122) (v := r) hM2 (by omega)
  have g3 : qGn M2 (x_up M2 122 k r) := qGn_J (qJ_u (k := k) (q := 122) (by omega))
  have hn3 : e_n (x_up M2 122 k r) T1 (e_D z z1 v) r v := e_n_t (qN_G g3) (fun _ _ _ _ _ => rfl) (fun _ _ _ => rfl) hn2
  have k122 : x_up M2 122 k r 122 k = r := x_up_s rfl
  generalize x_up M2 122 k r = A at *
  rcases h2 with ⟨n1, ho⟩ | ⟨hmore, m, h2⟩
  · subst ho
    exact l_51e (d := d + 10) hE hS hM3.1 hM3.2.1.1 (by omega) k122 n1.1 n1.2 ⟨rfl, qO_g hO hM3 (by omega) (by omega) hn3⟩
  · exact c_sk H hP (by omega) m p1 (z1 + 1) _ v r _ _ False A h2 hM3 k122 (by omega) (by omega) (eC_0 hn3 ⟨y5, y6, by omega⟩ y8) (.inr hmore)
/-- one more of them, or the end -/
theorem c_qk (H : qH eX tk c prev dp 0 d Q ρ e M R sl k p z o M1) (hP : qXo eX tk c 1 (g_step tk prev) dp) {node : Int} (hno : z < node) : ∀ (m : Nat) (q zc : Int) (T : Int → Int) (last r s u : Int) (b : Prop) (M2 : Nat → Int → Int), g_qk tk prev node m q zc T last o → qM tk c k 0 1 dp (tk p).2.1 q s u M M2 → M2 122 k = r → s ≤ q - p → u + 1 ≤ q - p → eCo 13 z node b M2 T zc last r → (b ∨ z_M (tk q) 59) → xm_J tb_P eX tb_K0 174 (d + 12) 47 (fun o s' => o = .inl none ∧ xm_J tb_P eX tb_K0 174 (d + 13) 45 Q 11 [(0, .inr (.inr (some 82)))] [] s') 78 [(0, .inr (.inr (some 82))), (1, .inl k)] [] (ρ, e, M2, R, sl) := by
  have H' := H
  obtain ⟨⟨hS, hE, hz⟩, ⟨hL, hG⟩, hd, ⟨hT, hB, hk, k0, k1⟩, hO, hE1⟩ := H
  have hp := qT_p hT
  intro m
  induction m with
  | zero =>
    intro q zc T last r s u b M2 h hM2 hr hs hu hC hq
    obtain ⟨h1, ho⟩ := h
    obtain rfl : b = True := eq_true (by rcases hq with hq | hq; exact hq; exact absurd hq h1)
    subst ho
    exact l_47e (d := d + 10) hE hS hM2.1 hM2.2.1.1 (by omega) hr h1 ⟨rfl, qO_g hO hM2 hs hu (eC_e hC)⟩
  | succ m ih =>
    intro q zc T last r s u b M2 h hM2 hr hs hu hC hq
    have hc := eC_b hC
    have hq0 := qT_p hM2.1
    have hB2 := qBn_R hB hM2.2.2 (p' := q) (by omega) (by omega)
    have hb2 := hB2.2.1
    obtain ⟨h59, h⟩ := h
    have hlt : q < c := z_M_lt hS (by omega) h59
    refine l_47m (d := d + 10) hE hS hM2.1 hM2.2.1.1 (by omega) hM2.2.1.2.2.2.1 (by omega) h59 (fun M' g => ⟨rfl, ?_⟩)
    have hMN := qM_n hM2 hlt
    have gN : qGn M2 (x_up M2 81 6 (q + 1)) := qGn_P (qT_nx hM2.1 hlt).2
    have n122 : (x_up M2 81 6 (q + 1)) 122 k = r := by rw [x_up_p (by decide)]; exact hr
    generalize x_up M2 81 6 (q + 1) = N at *
    have hBN : qBn c N (q + 1) := qBn_R hB hMN.2.2 (by omega) (by omega)
    rcases h with ⟨a, h1, rfl⟩ | ⟨p1, z1, T1, v, h1, h2⟩
    · exact hP (q + 1) zc T _ (by omega) h1 d ρ e N R sl Q (k + 1) hMN.1 hBN hMN.2.1.1 (by omega) (by omega) (fun M3 w1 w2 w3 => qO_w hO w1 w2 (qGn_tr hMN.2.2.1 w3)) M' (fun _ => g) (fun h => absurd h (by omega))
    have y0 := g_step_ok hS hG (p := q + 1) (z := zc) (by omega) (by omega) (by omega) h1
    obtain ⟨y1, y2, y3, y4, y5, y6, y7, y8, y9⟩ := y0
    refine hP (q + 1) zc T _ (by omega) h1 d ρ e N R sl Q (k + 1) hMN.1 hBN hMN.2.1.1 (by omega) (by omega) (fun M3 ra hT3 hk3 hr3 hG3 hF3 hD3 hn3 => ?_) M' (fun _ => g) (fun h => absurd h (by omega))
    have hM3 := qM_b hMN hT3 hk3 hG3 hF3 hD3
    have r3 : M3 122 k = r := by rw [hF3.1 122 k (by omega) (by omega) (by omega)]; exact n122
    have g3 : qGn M2 M3 := qGn_tr gN hG3
    have hB3 := qBn_R hB hM3.2.2 (p' := p1) (by omega) (by omega)
    have hb3 := hB3.2.1
    have m3 := g3.2.2.1.1
    refine qM_45 (w := 0) hE (by decide) (by omega) hM3 (q_47c (d := d + 10) hE (by omega) hM3.2.1.2.2.1 r3 (by omega) hr3 rfl rfl (by omega) (fun M4 g4 => ?_))
    have hM4 := qM_u (y := 122) (v := M3 81 21) (qM_K hM3 rfl g4) (by omega)
    have g5 : qGn M3 (x_up M4 122 k (M3 81 21)) := qGn_tr (qGn_K rfl g4) (qGn_J (qJ_u (k := k) (q := 122) (by omega)))
    have c5 : ∀ x, x ≠ 122 → x_up M4 122 k (M3 81 21) x = M4 x := fun x hx => x_up_ne hx
    have k21 : x_up M4 122 k (M3 81 21) 81 21 = M3 81 21 + 1 := by rw [c5 81 (by decide)]; exact g4.1
    have k96 : x_up M4 122 k (M3 81 21) 96 (M3 81 21) = 12 := by rw [c5 96 (by decide)]; exact g4.2.1.1
    have k97 : x_up M4 122 k (M3 81 21) 97 (M3 81 21) = r := by rw [c5 97 (by decide)]; exact g4.2.1.2.1
    have k98 : x_up M4 122 k (M3 81 21) 98 (M3 81 21) = ra := by rw [c5 98 (by decide)]; exact g4.2.1.2.2.1
    have k102 : x_up M4 122 k (M3 81 21) 102 (M3 81 21) = M2 102 r := by rw [c5 102 (by decide), g4.2.1.2.2.2.2.2.2.1]; exact g3.2.2.1.2 102 r (by omega) (by omega) hc.1.2
    have k122 : x_up M4 122 k (M3 81 21) 122 k = M3 81 21 := x_up_s rfl
    generalize x_up M4 122 k (M3 81 21) = A at *
    refine ih p1 z1 _ v (M3 81 21) _ _ True A h2 hM4 k122 (by omega) (by omega) (eC_s hC (qGn_tr g3 g5) (fun j a => y7 j a) ⟨y5, y6⟩ y8 (fun j a b => t_u_o a) (t_u_s rfl) ⟨by omega, by omega⟩ k97 k102 (fun M' T' hi' e1 e2 e3 => ?_)) (.inl trivial)
    have h96 : M' 96 (M3 81 21) = 12 := by rw [e1.2.2.1.2 96 _ (by omega) (by omega) (by omega)]; exact k96
    have h98 : M' 98 (M3 81 21) = ra := by rw [e1.2.2.1.2 98 _ (by omega) (by omega) (by omega)]; exact k98
    have ec : e_c (e_n M' T') (e_D z hi' node) (M3 81 21) (M' 98 (M3 81 21)) v := by
      rw [h98]
      exact e_oc hn3 g5 e1 ⟨y5, y6⟩ (by omega) (Int.le_refl _) (fun j a b => by rw [t_u_o (by omega)]) e2 e3 (by omega)
    exact .inr (.inr (.inr ⟨rfl, h96, ec⟩))
theorem qX_steps (hE : ∀ j, (eX j).1 ≤ 1000000) (hS : t_S tk c) (hL : qL eX tk c prev (dp + 1)) (hG : g_ok c prev) (hd : 1 ≤ dp ∧ dp ≤ 12) (hP : qXo eX tk c 1 (g_step tk prev) dp) : qXo eX tk c 0 (g_steps tk prev) dp := by
  intro p z T o hz h d ρ e M R sl Q k hT hB hk k0 k1 hO M1 h1 h2
  have H : qH eX tk c prev dp 0 d Q ρ e M R sl k p z o M1 := ⟨⟨hS, hE, hz⟩, ⟨hL, hG⟩, hd, ⟨hT, hB, hk, k0, k1⟩, hO, h1 hd.2⟩
  obtain ⟨hM, hc⟩ := qH_M H
  have hp := qT_p hT
  refine qM_45 (w := 0) hE (by decide) (by omega) hM (q_47a (d := d + 11) hE hM.1 hM.2.1.1 (by omega) hM.2.1.2.2.1 hM.2.1.2.2.2.1 (by omega) (fun M' g => ⟨rfl, ?_⟩))
  have hMN := qM_J (st' := 1) hM (qT_c (q := 120) (k := k) (v := 1) hM.1 (by omega)) (qJ_u (by omega)) (x_up_p (by decide)) (x_up_p (by decide)) (x_up_p (by decide)) (x_up_s rfl)
  have n122 : x_up M1 120 k 1 122 k = -1 := by rw [x_up_p (by decide)]; exact hc
  generalize x_up M1 120 k 1 = N at *
  have hBN : qBn c N p := qBn_R hB hMN.2.2 (by omega) (by omega)
  rcases h with ⟨a, h1, rfl⟩ | ⟨p1, z1, T1, v, h1, h2⟩
  · exact hP p z T _ hz h1 d ρ e N R sl Q (k + 1) hMN.1 hBN hMN.2.1.1 (by omega) (by omega) (fun M3 w1 w2 w3 => qO_w hO w1 w2 (qGn_tr hMN.2.2.1 w3)) M' (fun _ => g) (fun h => absurd h (by omega))
  have y0 := g_step_ok hS hG (p := p) (z := z) (by omega) (by omega) hz h1
  obtain ⟨y1, y2, y3, y4, y5, y6, y7, y8, y9⟩ := y0
  refine hP p z T _ hz h1 d ρ e N R sl Q (k + 1) hMN.1 hBN hMN.2.1.1 (by omega) (by omega) (fun M2 r hT2 hk2 hr2 hG2 hF2 hD2 hn2 => ?_) M' (fun _ => g) (fun h => absurd h (by omega))
  have hM2 := qM_b hMN hT2 hk2 hG2 hF2 hD2
  have r2 : M2 122 k = -1 := by rw [hF2.1 122 k (by omega) (by omega) (by omega)]; exact n122
  refine qM_45 (w := 0) hE (by decide) (by omega) hM2 (q_47b (d := d + 10) hE (by omega) hM2.2.1.2.2.1 r2 hr2 ?_)
  have hM3 := qM_u (y := 122) (v := r) hM2 (by omega)
  have g3 : qGn M2 (x_up M2 122 k r) := qGn_J (qJ_u (k := k) (q := 122) (by omega))
  have hn3 : e_n (x_up M2 122 k r) T1 (e_D z z1 v) r v := e_n_t (qN_G g3) (fun _ _ _ _ _ => rfl) (fun _ _ _ => rfl) hn2
  have k122 : x_up M2 122 k r 122 k = r := x_up_s rfl
  generalize x_up M2 122 k r = A at *
  rcases h2 with ⟨n1, ho⟩ | ⟨hmore, m, h2⟩
  · subst ho
    exact l_47e (d := d + 10) hE hS hM3.1 hM3.2.1.1 (by omega) k122 n1 ⟨rfl, qO_g hO hM3 (by omega) (by omega) hn3⟩
  · exact c_qk H hP (by omega) m p1 (z1 + 1) _ v r _ _ False A h2 hM3 k122 (by omega) (by omega) (eC_0 hn3 ⟨y5, y6, by omega⟩ y8) (.inr hmore)
end

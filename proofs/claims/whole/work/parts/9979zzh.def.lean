/-! DEFINE: the law -/
/-- the reference answers v, and all holds that must hold between calls -/
def dV (eX : Nat → Nat × (Nat → Int32)) (t v : Int) (ρ : Nat → Option xk) (e : Nat) (R : Nat → Int → Option Nat) (M : Nat → Int → Int) (s2 : xs) : Prop := ∀ d, xm_call tb_P eX tb_K0 174 (d + 16) 20 [.inr (.inr (some 82))] s2 (fun oo s' => oo = .inl (some (.inl v)) ∧ iv s' ∧ fnP s' ∧ rm t s' ∧ dHg ρ e R s'.1 s'.2.1 s'.2.2.2.1 ∧ gD M s'.2.2.1)
section
variable {ρ : Nat → Option xk} {e sl d : Nat} {M : Nat → Int → Int} {R : Nat → Int → Option Nat} {eX : Nat → Nat × (Nat → Int32)} {Q : xK}
theorem de_class (hE : ∀ j, (eX j).1 ≤ 1000000) (hX : n_X eX) {t : Int} (ht : 0 ≤ t) (h : iv (ρ, e, M, R, sl)) (hf : fnP (ρ, e, M, R, sl)) (hr : rm (t + 1) (ρ, e, M, R, sl)) : xm_call tb_P eX tb_K0 174 (d + 201) 159 [.inr (.inr (some 1))] (ρ, e, M, R, sl) (fun oo s2 => ∃ v, oo = .inl (some (.inl v)) ∧ dV eX t v ρ e R M s2) := by
  obtain ⟨n, hn⟩ : ∃ n, M 0 9 = n := ⟨_, rfl⟩
  obtain ⟨q, ρ1, e1, M1, R1, sl1, h160, v1, f1, r1, hq, hn1, hg1, hm0⟩ := de_front (eX := eX) hE h hf hr ht hn
  have gm : ∀ M3, gD M1 M3 → gD M M3 := fun M3 hg => by
    obtain ⟨hg, hN⟩ := hg
    refine ⟨?_, fun a => hN (fun f f0 f1 => ?_)⟩
    rotate_left
    · rw [hm0 0 (by omega)] at f1
      have := a f f0 f1
      unfold dNf at this ⊢
      rw [hm0 88 (by omega), hm0 93 (by omega), hm0 87 (by omega), hm0 91 (by omega)]
      exact this
    rcases hg with g | ⟨g1, g2, g3, g4, g5⟩
    · exact .inl g
    · refine .inr ⟨by rw [g1, hm0 0 (by omega)], by rw [g2, hm0 0 (by omega)], by rw [g3, hm0 8 (by omega)], fun x j hx => by rw [g4 x j hx, hm0 x (by omega)], ?_⟩
      rw [hn1, ← hn] at g5
      obtain ⟨⟨y1, y2, y3⟩, y4, y5, y6, y7, y8, y9⟩ := g5
      exact ⟨⟨fun x i a b c d' e' f => by rw [y1 x i a b c d' e' f, hm0 x (by omega)], fun i a => by rw [y2 i a, hm0 87 (by omega)], fun x i a b => by rw [y3 x i a b, hm0 x (by omega)]⟩, fun x i a b c => by rw [y4 x i a b c, hm0 x (by omega)], fun x i a b c => by rw [y5 x i a b c, hm0 x (by omega)], fun x i a b c => by rw [y6 x i a b c, hm0 x (by omega)], fun x i a b c => by rw [y7 x i a b c, hm0 x (by omega)], fun x i a b c => by rw [y8 x i a b c, hm0 x (by omega)], fun i a => by rw [y9 i a, hm0 118 (by omega)]⟩
  clear h hf hr
  have hp := v1.2.2.2.1
  unfold iv_p at hp
  dsimp only at hp
  have hn8 : 0 ≤ n ∧ n ≤ 8 := by omega
  have hm10 : M1 81 10 = n := by rw [← hp.2.1]; exact hn1
  clear hp
  have htx := v1.1
  unfold iv_t at htx
  dsimp only at htx
  obtain ⟨T1, T2, T3⟩ := htx
  obtain ⟨nn, hnn⟩ : ∃ nn, M1 1 1 = nn := ⟨_, rfl⟩
  rw [hnn] at T1 T2 T3
  have hX0 : t_X M1 nn := ⟨hnn, T2.1, T2.2, fun j a b => by rw [(T3 j a b).1]; exact (T3 j a b).2⟩
  obtain ⟨l, hL, hl⟩ := t_L_ex (M1 2) nn nn.toNat 0 T2.1 (by omega)
  have hl' : (l.length : Int) ≤ 480 := by omega
  have hL2 : t_L (M1 82) nn 0 l := t_L_c (fun j a b => (T3 j a b).1.symm) (Int.le_refl 0) hL
  have hS := t_st_S hL hl'
  have hpl : ∀ i, 0 ≤ (t_st l nn i).2.1 := t_st_p T2.1 hL
  have hcq := de_cT f1 hn8 hq
  obtain ⟨A, hA, hd, hw⟩ := de_tr f1 hn1 hn8 hq
  have hroom := rm_in r1 ht
  obtain ⟨o, ho⟩ := h_fun_ex hS (M1 (q + 175))
  have yR : ∀ M2 : Nat → Int → Int, (∀ x, 81 ≤ x → x < 83 → M2 x = M1 x) → t_Y M2 nn ∧ t_L (M2 82) nn 0 l ∧ M2 81 10 = n := fun M2 hm =>
    ⟨⟨by rw [hm 81 (by decide) (by decide)]; exact T1.symm, T2.1, T2.2, fun j a b => by rw [hm 82 (by decide) (by decide)]; exact (T3 j a b).2⟩, by rw [hm 82 (by decide) (by decide)]; exact hL2, by rw [hm 81 (by decide) (by decide)]; exact hm10⟩
  refine r_159 (d := d) hE hX hn hn8 (h160 (d + 197)) hn1 hX0 hL hl' hcq.1 hcq.2 hroom hA hd ho ?_
  clear T1 T3 hX0 hnn hroom hA hd hl h160
  rcases o with a | ⟨p', z', T', F'⟩
  · intro M2 m1 m2 m3 m4
    obtain ⟨y1, y2, y3⟩ := yR M2 (fun x _ _ => m3 x (by omega) (by omega) (by omega) (by omega) (by omega) (by omega) (by omega) (by omega) (by omega))
    refine ⟨-2, rfl, fun d => q_20 (f := n) (n := nn) (T := M1 (q + 175)) (o := .inl a) hE y3 hn8 y1 y2 hl' ho ?_⟩
    intro Mr g1 M3 g2 g3 g4
    have en := de_end_a v1 f1 r1 hn1 hn8 hq m1 m2 m3 m4 g1 g2 g3 g4
    exact ⟨rfl, en.1, en.2.1, en.2.2.1, dHg_tr hg1 (dHg_tr dHg_rd dHg_ex), gm _ en.2.2.2⟩
  · have hXt : fXt T' F' z' := h_fun_X hS hpl (t_st_m hL) ho
    have hc1 : (1 : Int) ≤ l.length := by
      rcases ho with ⟨_, hh⟩ | ⟨hw, _⟩
      · cases hh
      · have := z_W_lt hS (p := 0) (by omega) hw
        omega
    intro sv hsv M2 u0 m3 m4
    obtain ⟨y1, y2, y3⟩ := yR M2 (fun x _ _ => m3 x (by omega) (by omega) (by omega) (by omega) (by omega) (by omega) (by omega) (by omega))
    have same : ∀ Mr, fRt (t_st l nn) l.length n Mr T' F' z' → dG n (x_up M2 81 0 0) Mr → ∀ sr, ((Mr 81 50 < 0 ∧ z_eq (Mr 86) n 0 → sr = (t_st l nn 1).2.1) ∧ (¬ (Mr 81 50 < 0 ∧ z_eq (Mr 86) n 0) → sr = Mr 81 50)) → sr = sv := fun Mr b1 b3 sr b4 => de_same hS hpl hc1 hsv (fun k a b => by
      have hk := b3.2.2.1.1 86 k (by decide) (by decide) (by decide) (by decide) (by decide) (by omega)
      rw [hk, x_up_ne (by decide), m3 86 (by decide) (by decide) (by decide) (by decide) (by decide) (by decide) (by omega) (by omega)]
      exact hw k a b) b1 b4
    refine ⟨fun s0 k1 k2 => ⟨-3, rfl, fun d => q_20 (f := n) (n := nn) (T := M1 (q + 175)) (o := .inr (p', z', T', F')) hE y3 hn8 y1 y2 hl' ho ?_⟩, fun s0 n8 k1 k2 => ⟨-4, rfl, fun d => q_20 (f := n) (n := nn) (T := M1 (q + 175)) (o := .inr (p', z', T', F')) hE y3 hn8 y1 y2 hl' ho ?_⟩, fun s0 n7 k1 k9 k11 k2 => ⟨n, rfl, fun d => q_20 (f := n) (n := nn) (T := M1 (q + 175)) (o := .inr (p', z', T', F')) hE y3 hn8 y1 y2 hl' ho ?_⟩⟩
    · intro Mr b1 b2 b3 sr b4 M3 g2 g3
      have es := same Mr b1 b3 sr b4
      subst es
      refine ⟨fun s1 g4 => have en := de_end_b v1 f1 r1 hn1 hn8 hq k1 k2 m3 m4 b3 g2 g3 g4; ⟨rfl, en.1, en.2.1, en.2.2.1, dHg_tr hg1 dHg_rd, gm _ en.2.2.2⟩, fun s1 f8 g4 => absurd s0 (by omega), fun s1 f7 g9 gz g4 => absurd s0 (by omega)⟩
    · intro Mr b1 b2 b3 sr b4 M3 g2 g3
      have es := same Mr b1 b3 sr b4
      have em := de_sv hpl hsv b1 s0
      refine ⟨fun s1 g4 => absurd s0 (by omega), fun s1 f8 g4 => have en := de_end_b v1 f1 r1 hn1 hn8 hq k1 k2 m3 m4 b3 g2 (by rw [g3, es, em]) g4; ⟨rfl, en.1, en.2.1, en.2.2.1, dHg_tr hg1 dHg_rd, gm _ en.2.2.2⟩, fun s1 f7 g9 gz g4 => absurd n8 (by omega)⟩
    · intro Mr b1 b2 b3 sr b4 M3 g2 g3
      have es := same Mr b1 b3 sr b4
      have em := de_sv hpl hsv b1 s0
      have h5r : Mr 81 50 < 0 := by
        have e4 := b4.2 (fun q => by have h1 := b4.1 q; have h2 := hpl 1; omega)
        omega
      refine ⟨fun s1 g4 => absurd s0 (by omega), fun s1 f8 g4 => absurd n7 (by omega), fun s1 f7 g9 gz g4 => have en := de_end_s hpl h5r hS hc1 v1 f1 r1 hn1 ⟨hn8.1, n7⟩ hq u0 k1 k9 k11 m3 m4 b1 b2 hXt b3 g2 (by rw [g3, es, em]) g9 gz g4; ⟨rfl, en.1, en.2.1, en.2.2.1, dHg_tr hg1 dHg_rd, gm _ en.2.2.2⟩⟩
end

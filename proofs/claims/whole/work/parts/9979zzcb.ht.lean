/-! HOW DEEP: let, if, changes, steps; all levels -/
theorem ht_tw {T : Int → Int} {L : Nat} {lo hi v t w a b a2 b2 f g t1 t2 w1 w2 : Int} (hk : T (v * 9 + 0) = 4 ∨ T (v * 9 + 0) = 14) (hv : lo ≤ v ∧ v < hi) (hf : T (v * 9 + 5) = f) (hg : t_nx T f = g) (h0 : ht T L a b f t1 w1) (h1 : ht T L a2 b2 g t2 w2) (hi1 : lo ≤ a ∧ (v < a ∨ b ≤ v)) (hi2 : b ≤ a2 ∧ b2 ≤ hi ∧ (v < a2 ∨ b2 ≤ v)) (ht1 : t1 + 1 ≤ t ∧ t2 + 1 ≤ t) (hw : w1 + 2 ≤ w ∧ w2 + 2 ≤ w) : ht T (L + 1) lo hi v t w := by
  have i0 := ht_in h0
  have i1 := ht_in h1
  have hc : h_c (T (v * 9 + 0)) 2 = 1 := by
    unfold h_c
    rw [if_neg (by omega), if_neg (by omega)]
  have hk2 : h_k (T (v * 9 + 0)) ≤ 2 := by
    unfold h_k
    rw [if_neg (by omega), if_neg (by omega), if_neg (by omega)]
    split <;> omega
  refine ⟨hv, by omega, 2, .inr (.inr (.inl ⟨hk, rfl⟩)), ?_⟩
  rw [hc, hf]
  refine ⟨a, b, ⟨hi1.1, by omega, hi1.2⟩, ht_mono (Nat.le_refl _) (Int.le_refl _) (Int.le_refl _) (by omega) (by omega) h0, ?_⟩
  rw [hg]
  exact ⟨a2, b2, ⟨hi2.1, hi2.2.1, hi2.2.2⟩, ht_mono (Nat.le_refl _) (Int.le_refl _) (Int.le_refl _) (by omega) (by omega) h1, fun q => absurd q (by omega)⟩
theorem ht_fo {T : Int → Int} {L : Nat} {lo hi v t w z1 z2 z3 z4 f1 f2 f3 f4 t1 t2 t3 t4 w1 : Int} (hk : T (v * 9 + 0) = 15) (hv : lo ≤ v ∧ v < hi) (hf : T (v * 9 + 5) = f1) (hg : t_nx T f1 = f2) (hg3 : t_nx T f2 = f3) (hg4 : t_nx T f3 = f4) (h1 : ht T L (v + 1) z1 f1 t1 w1) (h2 : ht T L z1 z2 f2 t2 w1) (h3 : ht T L z2 z3 f3 t3 w1) (h4 : ht T L z3 z4 f4 t4 w1) (hh : z4 ≤ hi) (ht1 : t1 + 1 ≤ t ∧ t2 + 1 ≤ t ∧ t3 + 1 ≤ t ∧ t4 + 1 ≤ t) (hw : w1 + 3 ≤ w) : ht T (L + 1) lo hi v t w := by
  have i1 := ht_in h1
  have i2 := ht_in h2
  have i3 := ht_in h3
  have i4 := ht_in h4
  have hc : h_c (T (v * 9 + 0)) 4 = 1 := by
    unfold h_c
    rw [if_neg (by omega), if_neg (by omega)]
  have hk2 : h_k (T (v * 9 + 0)) = 3 := by
    unfold h_k
    rw [if_neg (by omega), if_neg (by omega), if_pos hk]
  refine ⟨hv, by omega, 4, .inr (.inr (.inr (.inl ⟨hk, rfl⟩))), ?_⟩
  rw [hc, hf, hk2]
  refine ⟨v + 1, z1, ⟨by omega, by omega, by omega⟩, ht_mono (Nat.le_refl _) (Int.le_refl _) (Int.le_refl _) (by omega) (by omega) h1, ?_⟩
  rw [hg]
  refine ⟨z1, z2, ⟨by omega, by omega, by omega⟩, ht_mono (Nat.le_refl _) (Int.le_refl _) (Int.le_refl _) (by omega) (by omega) h2, ?_⟩
  rw [hg3]
  refine ⟨z2, z3, ⟨by omega, by omega, by omega⟩, ht_mono (Nat.le_refl _) (Int.le_refl _) (Int.le_refl _) (by omega) (by omega) h3, ?_⟩
  rw [hg4]
  exact ⟨z3, z4, ⟨by omega, hh, by omega⟩, ht_mono (Nat.le_refl _) (Int.le_refl _) (Int.le_refl _) (by omega) (by omega) h4, fun q => absurd q (by omega)⟩
theorem t_nx_is {T : Int → Int} {f g : Int} (h : T (f * 9 + 7) = g) (hf : f < g) : t_nx T f = g := by
  unfold t_nx
  rw [h, if_pos hf]
section
variable {tk : Int → t_t} {c : Int} {prev : g_T} {L : Nat} {W : Int}
theorem g_let_H (hS : t_S tk c) (hp0 : g_ok c prev) (hH : ∀ w, w ≤ 4 → g_H c L W (prev w)) {p z p' z' v : Int} {T T' : Int → Int} (hp : 0 ≤ p) (hc : p < c) (hz : 1 ≤ z) (h : g_let tk prev p z T (.inr (p', z', T', v))) : ht T' (L + 1) z z' v (p' - p) (W + 2) := by
  rcases h with ⟨h1, h⟩ | ⟨-, h⟩
  · have q1 := z_lt hS (p := p + 1) (by omega) (by rw [h1]; decide)
    rcases h with ⟨h2, h⟩ | ⟨-, h⟩
    · have q2 := z_M_lt hS (p := p + 2) (by omega) h2
      rcases h with ⟨a, -, h⟩ | ⟨p1, z1, T1, u, h3, h⟩
      · cases h
      · obtain ⟨a1, a2, a3, a4, a5, a6, a7, a8, a9⟩ := hp0 1 (p + 3) (z + 1) _ _ (by omega) (by omega) (by omega) (by omega) h3
        have hh1 := hH 1 (by omega) (p + 3) (z + 1) _ p1 z1 T1 u (by omega) (by omega) (by omega) h3
        rcases h with ⟨h4, h⟩ | ⟨-, h⟩
        · have q3 := z_W_lt hS (p := p1) (by omega) h4
          rcases h with ⟨a, -, h⟩ | ⟨p2, z2, T2, x, h5, h⟩
          · cases h
          · obtain ⟨b1, b2, b3, b4, b5, b6, b7, b8, b9⟩ := hp0 0 (p1 + 1) z1 _ _ (by omega) (by omega) (by omega) (by omega) h5
            have hh2 := hH 0 (by omega) (p1 + 1) z1 _ p2 z2 T2 x (by omega) (by omega) (by omega) h5
            cases h
            refine ht_tw (a := z + 1) (b := z1) (a2 := z1) (b2 := z') (f := u) (g := x) (.inr ?_) (by omega) ?_ (t_nx_is (t_u_s rfl) (by omega)) (ht_fr (fun j c1 c2 c3 c4 => ?_) hh1) (ht_fr (fun j c1 c2 c3 c4 => ?_) hh2) (by omega) (by omega) (by omega) (by omega)
            · rw [t_u_o (by omega), b7 _ (by omega), t_u_o (by omega), a7 _ (by omega), t_u_o (by omega), t_u_o (by omega), t_ad_0 rfl]
            · rw [t_u_o (by omega), b7 _ (by omega), t_u_s rfl]
            · rw [t_u_o (by omega), b7 j (by omega), t_u_o (by omega)]
            · rw [t_u_o (by omega)]
        · cases h
    · cases h
  · cases h
theorem g_if_H (hS : t_S tk c) (hp0 : g_ok c prev) (hW : 0 ≤ W) (hH : ∀ w, w ≤ 4 → g_H c L W (prev w)) {p z p' z' v : Int} {T T' : Int → Int} (hp : 0 ≤ p) (hc : p < c) (hz : 1 ≤ z) (h : g_if tk prev p z T (.inr (p', z', T', v))) : ht T' (L + 4) z z' v (p' - p) (W + 20) := by
  rcases h with ⟨a, -, h⟩ | ⟨p1, z1, T1, a, h1, h⟩
  · cases h
  · obtain ⟨a1, a2, a3, a4, a5, a6, a7, a8, a9⟩ := g_sum_ok hS hp0 (p := p + 1) (by omega) (by omega) (by omega) h1
    have k1 := g_sum_H hS hp0 hW hH (p + 1) (z + 1) _ p1 z1 T1 a (by omega) (by omega) (by omega) h1
    rcases h with ⟨h2, h⟩ | ⟨-, h⟩
    · have q2 := z_r_lt hS (p := p1) (by omega) h2
      rcases h with ⟨x, -, h⟩ | ⟨p2, z2, T2, b, h3, h⟩
      · cases h
      · obtain ⟨b1, b2, b3, b4, b5, b6, b7, b8, b9⟩ := g_sum_ok hS hp0 (p := p1 + 1) (by omega) (by omega) (by omega) h3
        have k2 := g_sum_H hS hp0 hW hH (p1 + 1) z1 _ p2 z2 T2 b (by omega) (by omega) (by omega) h3
        rcases h with ⟨h4, h⟩ | ⟨-, h⟩
        · have q3 := z_W_lt hS (p := p2) (by omega) h4
          rcases h with ⟨x, -, h⟩ | ⟨p3, z3, T3, u, h5, h⟩
          · cases h
          · obtain ⟨c1, c2, c3, c4, c5, c6, c7, c8, c9⟩ := hp0 0 (p2 + 1) z2 _ _ (by omega) (by omega) (by omega) (by omega) h5
            have k3 := hH 0 (by omega) (p2 + 1) z2 _ p3 z3 T3 u (by omega) (by omega) (by omega) h5
            rcases h with ⟨h6, h⟩ | ⟨-, h⟩
            · have q4 := z_W_lt hS (p := p3) (by omega) h6
              rcases h with ⟨x, -, h⟩ | ⟨p4, z4, T4, y, h7, h⟩
              · cases h
              · obtain ⟨d1, d2, d3, d4, d5, d6, d7, d8, d9⟩ := hp0 0 (p3 + 1) z3 _ _ (by omega) (by omega) (by omega) (by omega) h7
                have k4 := hH 0 (by omega) (p3 + 1) z3 _ p4 z4 T4 y (by omega) (by omega) (by omega) h7
                rcases h with ⟨h8, h⟩ | ⟨-, h⟩
                · cases h
                  refine ht_fo (L := L + 3) (z1 := z1) (z2 := z2) (z3 := z3) (z4 := z') (f1 := a) (f2 := b) (f3 := u) (f4 := y) (w1 := W + 17) ?_ (by omega) ?_ (t_nx_is ?_ (by omega)) (t_nx_is ?_ (by omega)) (t_nx_is (t_u_s rfl) (by omega)) (ht_fr (fun j e1 e2 e3 e4 => ?_) k1) (ht_fr (fun j e1 e2 e3 e4 => ?_) k2) (ht_mono (by omega) (Int.le_refl _) (Int.le_refl _) (Int.le_refl _) (by omega) (ht_fr (fun j e1 e2 e3 e4 => ?_) k3)) (ht_mono (by omega) (Int.le_refl _) (Int.le_refl _) (Int.le_refl _) (by omega) (ht_fr (fun j e1 e2 e3 e4 => ?_) k4)) (Int.le_refl _) (by omega) (by omega)
                  · rw [t_u_o (by omega), d7 _ (by omega), t_u_o (by omega), c7 _ (by omega), t_u_o (by omega), b7 _ (by omega), t_u_o (by omega), t_u_o (by omega), a7 _ (by omega), t_ad_0 rfl]
                  · rw [t_u_o (by omega), d7 _ (by omega), t_u_o (by omega), c7 _ (by omega), t_u_o (by omega), b7 _ (by omega), t_u_o (by omega), t_u_s rfl]
                  · rw [t_u_o (by omega), d7 _ (by omega), t_u_o (by omega), c7 _ (by omega), t_u_s rfl]
                  · rw [t_u_o (by omega), d7 _ (by omega), t_u_s rfl]
                  · rw [t_u_o (by omega), d7 _ (by omega), t_u_o (by omega), c7 _ (by omega), t_u_o (by omega), b7 _ (by omega), t_u_o (by omega), t_u_o (by omega)]
                  · rw [t_u_o (by omega), d7 _ (by omega), t_u_o (by omega), c7 _ (by omega), t_u_o (by omega)]
                  · rw [t_u_o (by omega), d7 _ (by omega), t_u_o (by omega)]
                  · rw [t_u_o (by omega)]
                · cases h
            · cases h
        · cases h
    · cases h
theorem g_step_H (hS : t_S tk c) (hp0 : g_ok c prev) (hW : 0 ≤ W) (hH : ∀ w, w ≤ 4 → g_H c L W (prev w)) : g_H c (L + 4) (W + 20) (g_step tk prev) := by
  intro p z T p' z' T' v hp hc hz h
  rcases h with ⟨h1, h⟩ | ⟨h1, h⟩ | ⟨-, -, h⟩
  · exact ht_mono (by omega) (Int.le_refl _) (Int.le_refl _) (Int.le_refl _) (by omega) (g_let_H hS hp0 hH hp (z_W_lt hS ⟨hp, hc⟩ h1) hz h)
  · exact g_if_H hS hp0 hW hH hp (z_W_lt hS ⟨hp, hc⟩ h1) hz h
  · rcases h with ⟨a, -, h⟩ | ⟨p1, z1, T1, u, h1, h2⟩
    · cases h
    · have hA := g_sum_A hS hp0 hp hc hz h1
      obtain ⟨a1, a2, a3, a4, a5, a6, a7, a8, a9⟩ := g_sum_ok hS hp0 hp hc hz h1
      have hh := g_sum_H hS hp0 hW hH p z T p1 z1 T1 u hp hc hz h1
      rcases h2 with ⟨h2, h3, h4⟩ | ⟨-, h⟩
      · have q1 := z_M_lt hS (p := p1) (by omega) h3
        obtain ⟨f1, f2⟩ := hA h2
        rcases h4 with ⟨a, -, h⟩ | ⟨p2, z2, T2, x, h4, h⟩
        · cases h
        · obtain ⟨b1, b2, b3, b4, b5, b6, b7, b8, b9⟩ := hp0 1 (p1 + 1) z1 _ _ (by omega) (by omega) (by omega) (by omega) h4
          have k2 := hH 1 (by omega) (p1 + 1) z1 _ p2 z2 T2 x (by omega) (by omega) (by omega) h4
          cases h
          obtain ⟨m1, m2, n, m3, m4⟩ := hh
          have hn : n = 1 := by
            unfold h_n at m3
            rw [h2] at m3
            omega
          subst hn
          have hcc : h_c (T1 (v * 9 + 0)) 1 = 1 := by
            unfold h_c
            rw [if_neg (by omega), if_neg (by omega)]
          have hkk : h_k (T1 (v * 9 + 0)) = 1 := by
            unfold h_k
            rw [if_neg (by omega), if_neg (by omega), if_neg (by omega), if_neg (by omega)]
          obtain ⟨a, b, ⟨g1, g2, g3⟩, g4, -⟩ := m4
          rw [hcc, hkk] at g4
          have i4 := ht_in g4
          refine ht_tw (L := L + 3) (a := a) (b := b) (a2 := z1) (b2 := z') (f := T1 (v * 9 + 5)) (g := x) (.inl (t_u_s rfl)) (by omega) ?_ (t_nx_is ?_ (by omega)) (ht_mono (by omega) (Int.le_refl _) (Int.le_refl _) (Int.le_refl _) (Int.le_refl _) (ht_fr (fun j e1 e2 e3 e4 => ?_) g4)) (ht_mono (by omega) (Int.le_refl _) (Int.le_refl _) (Int.le_refl _) (Int.le_refl _) (ht_fr (fun j e1 e2 e3 e4 => ?_) k2)) (by omega) (by omega) (by omega) (by omega)
          · rw [t_u_o (by omega), t_u_o (by omega), b7 _ (by omega)]
          · rw [t_u_o (by omega), t_u_s rfl]
          · rw [t_u_o (by omega), t_u_o (by omega), b7 _ (by omega)]
          · rw [t_u_o (by omega), t_u_o (by omega)]
      · cases h
        exact ht_mono (by omega) (Int.le_refl _) (Int.le_refl _) (Int.le_refl _) (by omega) hh
theorem g_qk_H (hS : t_S tk c) (hp0 : g_ok c prev) (hW : 0 ≤ W) (hH : ∀ w, w ≤ 4 → g_H c L W (prev w)) {node : Int} : ∀ (m : Nat) (p z : Int) (T : Int → Int) (last p' z' : Int) (T' : Int → Int) (v : Int), 0 ≤ p → p ≤ c → 1 ≤ last → last < z → node < z → T (last * 9 + 7) = 0 → g_qk tk prev node m p z T last (.inr (p', z', T', v)) → 2 * (m : Int) ≤ p' - p ∧ htc T' (fun a b f => ht T' (L + 4) a b f (p' - p - 2 * m + 1) (W + 20)) (fun f => f = 0) node m z z' (t_nx T' last)
  | 0, p, z, T, last, p', z', T', v, hp, hc, hl, hl2, hn, h7, ⟨_, h⟩ => by
    cases h
    exact ⟨by omega, t_nx_z h7 hl⟩
  | m + 1, p, z, T, last, p', z', T', v, hp, hc, hl, hl2, hn, h7, ⟨h2, h3⟩ => by
    have q1 := z_M_lt hS ⟨hp, hc⟩ h2
    rcases h3 with ⟨a, -, h⟩ | ⟨p1, z1, T1, u, h3, h4⟩
    · cases h
    · obtain ⟨a1, a2, a3, a4, a5, a6, a7, a8, a9⟩ := g_step_ok hS hp0 (p := p + 1) (by omega) (by omega) (by omega) h3
      have hh := g_step_H hS hp0 hW hH (p + 1) z T p1 z1 T1 u (by omega) (by omega) (by omega) h3
      obtain ⟨⟨i1, i2, i3, i4, i5⟩, -⟩ := g_qk_ok hS hp0 m p1 z1 _ u _ (by omega) a2 (by omega) a6 h4
      obtain ⟨j1, j2⟩ := g_qk_H hS hp0 hW hH (node := node) m p1 z1 _ u p' z' T' v (by omega) a2 (by omega) a6 (by omega) (by rw [t_u_o (by omega)]; exact a8) h4
      refine ⟨by omega, htc_add hh (fun j b1 b2 b3 b4 => ?_) ?_ (by omega) (by omega) (Nat.le_refl _) (by omega) (Int.le_refl _) i3 (htc_mono (fun _ _ _ q => ht_mono (Nat.le_refl _) (Int.le_refl _) (Int.le_refl _) (by omega) (Int.le_refl _) q) (fun _ q => q) (Int.le_refl _) (Int.le_refl _) j2)⟩
      · rw [i5 j b2 b3, t_u_o (by omega)]
      · rw [i5 _ (by omega) (by omega), t_u_s rfl]
theorem g_steps_H (hS : t_S tk c) (hp0 : g_ok c prev) (hW : 0 ≤ W) (hH : ∀ w, w ≤ 4 → g_H c L W (prev w)) : g_H c (L + 5) (W + 21) (g_steps tk prev) := by
  intro p z T p' z' T' v hp hc hz h
  rcases h with ⟨a, -, h⟩ | ⟨p1, z1, T1, u, h1, h2⟩
  · cases h
  · obtain ⟨a1, a2, a3, a4, a5, a6, a7, a8, a9⟩ := g_step_ok hS hp0 hp hc hz h1
    have hh := g_step_H hS hp0 hW hH p z T p1 z1 T1 u hp hc hz h1
    rcases h2 with ⟨-, h⟩ | ⟨h2, m, h3⟩
    · cases h
      exact ht_mono (by omega) (Int.le_refl _) (Int.le_refl _) (Int.le_refl _) (by omega) hh
    · obtain ⟨⟨i1, i2, i3, i4, i5⟩, iv⟩ := g_qk_ok hS hp0 m p1 (z1 + 1) _ u _ (by omega) a2 (by omega) (by omega) h3
      obtain ⟨j1, j2⟩ := g_qk_H hS hp0 hW hH (node := z1) m p1 (z1 + 1) _ u p' z' T' v (by omega) a2 (by omega) (by omega) (by omega) (by rw [t_u_o (by omega), t_ad_lo (by omega)]; exact a8) h3
      have hm : m ≠ 0 := fun q => by
        subst q
        exact h3.1 h2
      obtain rfl := iv _ _ _ _ rfl
      refine ht_ch (L := L + 4) (z := z) (z1 := v) (z2 := v + 1) (f := u) (m := m) (.inr (.inr ?_)) (by omega) ?_ (by omega) (ht_fr (fun j b1 b2 b3 b4 => ?_) hh) (by omega) j2 (by omega) (by omega)
      · rw [i5 _ (by omega) (by omega), t_u_o (by omega), t_ad_0 rfl]
      · rw [i5 _ (by omega) (by omega), t_u_s rfl]
      · rw [i5 j (by omega) b3, t_u_o (by omega), t_ad_lo (by omega)]
theorem g_R_H (hS : t_S tk c) : ∀ (n w : Nat), w ≤ 4 → g_H c (5 * n) (21 * n) (g_R tk n w)
  | 0, w, hw => fun p z T p' z' T' v hp hc hz h => by
    have h : (.inr (p', z', T', v) : g_o) = .inl (tk p).2.1 := h
    cases h
  | n + 1, w, hw => fun p z T p' z' T' v hp hc hz h => by
    have ih := g_R_H hS n
    have ok := g_R_ok hS n
    have hc5 : w = 0 ∨ w = 1 ∨ w = 2 ∨ w = 3 ∨ w = 4 := by omega
    rcases hc5 with rfl | rfl | rfl | rfl | rfl
    · exact ht_mono (by omega) (Int.le_refl _) (Int.le_refl _) (Int.le_refl _) (by omega) (g_steps_H hS ok (by omega) ih p z T p' z' T' v hp hc hz h)
    · exact ht_mono (by omega) (Int.le_refl _) (Int.le_refl _) (Int.le_refl _) (by omega) (g_step_H hS ok (by omega) ih p z T p' z' T' v hp hc hz h)
    · exact ht_mono (by omega) (Int.le_refl _) (Int.le_refl _) (Int.le_refl _) (by omega) (g_sum_H hS ok (by omega) ih p z T p' z' T' v hp hc hz h)
    · exact ht_mono (by omega) (Int.le_refl _) (Int.le_refl _) (Int.le_refl _) (by omega) (g_prod_H hS ok (by omega) ih p z T p' z' T' v hp hc hz h)
    · exact ht_mono (by omega) (Int.le_refl _) (Int.le_refl _) (Int.le_refl _) (by omega) (g_part_H hS ok (by omega) ih p z T p' z' T' v hp hc hz h)
end

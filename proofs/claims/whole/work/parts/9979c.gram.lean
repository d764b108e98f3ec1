/-! STEPS: what holds of what comes out; something always comes out -/
/-- an access has its index behind it -/
def g_A : g_o → Prop
  | .inl _ => True
  | .inr (_, z', T', v) => T' (v * 9 + 0) = 3 → v < T' (v * 9 + 5) ∧ T' (v * 9 + 5) < z'
section
variable {tk : Int → t_t} {c : Int} {prev : g_T}
theorem g_c2_ok (hS : t_S tk c) (hp0 : g_ok c prev) {n p z : Int} {T : Int → Int} {o : g_o} (hp : 0 ≤ p) (hc : p ≤ c) (hn : 1 ≤ n) (hnz : n < z) (h : g_c2 tk prev n p z T o) : match o with
      | .inl _ => True
      | .inr (p', z', T', v) => p < p' ∧ p' ≤ c ∧ z ≤ z' ∧ z' - z ≤ p' - p ∧ v = n ∧ ∀ j, j < z * 9 → j ≠ n * 9 + 5 → T' j = T j := by
  rcases h with ⟨h1, h⟩ | ⟨h1, rfl⟩
  · have q1 := z_M_lt hS ⟨hp, hc⟩ h1
    rcases h with ⟨h2, rfl⟩ | ⟨h2, h⟩
    · have q2 := z_M_lt hS (p := p + 1) (by omega) h2
      exact ⟨by omega, by omega, Int.le_refl _, by omega, rfl, fun _ _ _ => rfl⟩
    · rcases h with ⟨a, -, rfl⟩ | ⟨p1, z1, T1, v, h3, m, h4⟩
      · trivial
      · obtain ⟨a1, a2, a3, a4, a5, a6, a7, a8, a9⟩ := hp0 0 (p + 1) z T _ (by omega) (by omega) (by omega) (by omega) h3
        rcases h4 with ⟨a, -, rfl⟩ | ⟨p2, z2, T2, v2, h4, h5⟩
        · trivial
        · obtain ⟨i1, i2, i3, i4, i5⟩ := g_ca_ok hS hp0 m 1 p1 z1 _ v _ (by omega) a2 (by omega) a6 h4
          rcases h5 with ⟨h5, rfl⟩ | ⟨-, rfl⟩
          · have q2 := z_M_lt hS (p := p2) (by omega) h5
            refine ⟨by omega, by omega, by omega, by omega, rfl, fun j j1 j2 => ?_⟩
            rw [i5 j (by omega) (by omega), t_u_o j2, a7 j j1]
          · trivial
  · trivial
theorem g_part_A (hS : t_S tk c) (hp0 : g_ok c prev) {p z : Int} {T : Int → Int} {o : g_o} (hp : 0 ≤ p) (hc : p ≤ c) (hz : 1 ≤ z) (h : g_part tk prev p z T o) : g_A o := by
  rcases h with ⟨h1, rfl⟩ | ⟨h1, h⟩ | ⟨h1, h⟩ | ⟨h1, h⟩ | ⟨h1, h⟩ | ⟨h1, h⟩ | ⟨-, -, -, -, -, -, rfl⟩
  · intro q
    rw [t_u_o (by omega), t_ad_0 rfl] at q
    omega
  · have q1 := z_M_lt hS ⟨hp, hc⟩ h1
    rcases h with ⟨a, -, rfl⟩ | ⟨p1, z1, T1, v, h2, h3⟩
    · trivial
    · obtain ⟨a1, a2, a3, a4, a5, a6, a7, a8, a9⟩ := hp0 0 (p + 1) (z + 1) _ _ (by omega) (by omega) (by omega) (by omega) h2
      rcases h3 with ⟨h3, h4⟩ | ⟨h3, h4⟩
      · rcases h4 with ⟨a, -, rfl⟩ | ⟨x, p2, h4, h5⟩
        · trivial
        · rcases h5 with ⟨h5, rfl⟩ | ⟨-, rfl⟩
          · intro q
            rw [t_u_o (by omega), t_ty_lo (by omega), t_u_s rfl] at q
            omega
          · trivial
      · rcases h4 with ⟨h4, rfl⟩ | ⟨-, rfl⟩
        · intro q
          rw [t_u_o (by omega), a7 _ (by omega), t_ad_0 rfl] at q
          omega
        · trivial
  · rcases h with ⟨h2, rfl⟩ | ⟨-, rfl⟩
    · intro q
      rw [t_u_o (by omega), t_u_o (by omega), t_ad_0 rfl] at q
      omega
    · trivial
  · have q1 := z_W_lt hS ⟨hp, hc⟩ h1
    rcases h with ⟨a, -, rfl⟩ | ⟨p1, z1, T1, v, h2, rfl⟩
    · trivial
    · obtain ⟨a1, a2, a3, a4, a5, a6, a7, a8, a9⟩ := hp0 4 (p + 1) (z + 1) _ _ (by omega) (by omega) (by omega) (by omega) h2
      intro q
      rw [t_u_o (by omega), a7 _ (by omega), t_ad_0 rfl] at q
      omega
  · have q1 := z_W_lt hS ⟨hp, hc⟩ h1
    rcases h with ⟨a, -, rfl⟩ | ⟨p1, z1, T1, v, h2, rfl⟩
    · trivial
    · obtain ⟨a1, a2, a3, a4, a5, a6, a7, a8, a9⟩ := hp0 4 (p + 1) (z + 1) _ _ (by omega) (by omega) (by omega) (by omega) h2
      intro q
      rw [t_u_o (by omega), a7 _ (by omega), t_ad_0 rfl] at q
      omega
  · have q1 := z_lt hS ⟨hp, hc⟩ (by rw [h1]; decide)
    rcases h with ⟨h2, h⟩ | ⟨h2, h⟩ | ⟨-, -, -, rfl⟩
    · have q2 := z_M_lt hS (p := p + 1) (by omega) h2
      rcases h with ⟨a, -, rfl⟩ | ⟨p1, z1, T1, v, h3, h4⟩
      · trivial
      · obtain ⟨a1, a2, a3, a4, a5, a6, a7, a8, a9⟩ := hp0 2 (p + 2) (z + 1) _ _ (by omega) (by omega) (by omega) (by omega) h3
        rcases h4 with ⟨h4, rfl⟩ | ⟨-, rfl⟩
        · intro q
          rw [t_u_s rfl]
          omega
        · trivial
    · have q2 : p + 1 < c := by rcases h2 with h2 | h2; exact z_M_lt hS (by omega) h2; exact z_M_lt hS (by omega) h2
      rcases h with ⟨h3, h4⟩ | ⟨h3, h4⟩
      · rcases h4 with ⟨a, -, rfl⟩ | ⟨L, p1, m, h4, h5⟩
        · trivial
        · have q3 := z_I_p hS (p := p + 1 + 1) (by omega) h4
          rcases h5 with ⟨a, -, rfl⟩ | ⟨p2, z2, T2, v2, h5, h6⟩
          · trivial
          · obtain ⟨i1, i2, i3, i4, i5⟩ := g_ci_ok hS m 1 p1 _ _ (z + 1) _ (by omega) (by omega) (by omega) (by omega) h5
            rcases h6 with ⟨h6, h7⟩ | ⟨-, rfl⟩
            · have q4 := z_M_lt hS (p := p2) (by omega) h6
              have h8 := g_c2_ok hS hp0 (p := p2 + 1) (by omega) (by omega) hz (by omega) h7
              rcases o with a | ⟨p', z', T', v'⟩
              · trivial
              · obtain ⟨k1, k2, k3, k4, k5, k6⟩ := h8
                intro q
                rw [k5, k6 _ (by omega) (by omega), i5 _ (by omega) (by omega), t_u_o (by omega), t_u_o (by omega), t_ix_lo _ _ _ _ _ (by omega) (.inl rfl), t_ad_lo (by omega), t_u_s rfl] at q
                omega
            · trivial
      · have h8 := g_c2_ok hS hp0 (p := p + 1) (by omega) (by omega) hz (by omega) h4
        rcases o with a | ⟨p', z', T', v'⟩
        · trivial
        · obtain ⟨k1, k2, k3, k4, k5, k6⟩ := h8
          intro q
          rw [k5, k6 _ (by omega) (by omega), t_u_s rfl] at q
          omega
    · intro q
      rw [t_u_o (by omega), t_u_o (by omega), t_ad_0 rfl] at q
      omega
  · trivial
theorem g_prod_A (hS : t_S tk c) (hp0 : g_ok c prev) {p z : Int} {T : Int → Int} {o : g_o} (hp : 0 ≤ p) (hc : p ≤ c) (hz : 1 ≤ z) (h : g_prod tk prev p z T o) : g_A o := by
  rcases h with ⟨a, -, rfl⟩ | ⟨p1, z1, T1, v, h1, h2⟩
  · trivial
  · obtain ⟨a1, a2, a3, a4, a5, a6, a7, a8, a9⟩ := g_part_ok hS hp0 hp hc hz h1
    rcases h2 with ⟨-, -, rfl⟩ | ⟨h2, m, h3⟩
    · exact g_part_A hS hp0 hp hc hz h1
    · obtain ⟨ih, iv⟩ := g_pk_ok hS hp0 m p1 (z1 + 1) _ v o (by omega) a2 (by omega) (by omega) h3
      rcases o with a | ⟨p', z', T', v'⟩
      · trivial
      · obtain ⟨i1, i2, i3, i4, i5⟩ := ih
        obtain rfl := iv _ _ _ _ rfl
        intro q
        rw [i5 _ (by omega) (by omega), t_u_o (by omega), t_ad_0 rfl] at q
        omega
theorem g_sum_A (hS : t_S tk c) (hp0 : g_ok c prev) {p z : Int} {T : Int → Int} {o : g_o} (hp : 0 ≤ p) (hc : p ≤ c) (hz : 1 ≤ z) (h : g_sum tk prev p z T o) : g_A o := by
  rcases h with ⟨a, -, rfl⟩ | ⟨p1, z1, T1, v, h1, h2⟩
  · trivial
  · obtain ⟨a1, a2, a3, a4, a5, a6, a7, a8, a9⟩ := g_prod_ok hS hp0 hp hc hz h1
    rcases h2 with ⟨-, rfl⟩ | ⟨h2, m, h3⟩
    · exact g_prod_A hS hp0 hp hc hz h1
    · obtain ⟨ih, iv⟩ := g_sk_ok hS hp0 m p1 (z1 + 1) _ v o (by omega) a2 (by omega) (by omega) h3
      rcases o with a | ⟨p', z', T', v'⟩
      · trivial
      · obtain ⟨i1, i2, i3, i4, i5⟩ := ih
        obtain rfl := iv _ _ _ _ rfl
        intro q
        rw [i5 _ (by omega) (by omega), t_u_o (by omega), t_ad_0 rfl] at q
        omega
theorem g_let_ok (hS : t_S tk c) (hp0 : g_ok c prev) {p z : Int} {T : Int → Int} {o : g_o} (hp : 0 ≤ p) (hc : p < c) (hz : 1 ≤ z) (h : g_let tk prev p z T o) : g_Q c p z T o := by
  rcases h with ⟨h1, h⟩ | ⟨-, rfl⟩
  · have q1 := z_lt hS (p := p + 1) (by omega) (by rw [h1]; decide)
    rcases h with ⟨h2, h⟩ | ⟨-, rfl⟩
    · have q2 := z_M_lt hS (p := p + 2) (by omega) h2
      rcases h with ⟨a, -, rfl⟩ | ⟨p1, z1, T1, v, h3, h⟩
      · trivial
      · obtain ⟨a1, a2, a3, a4, a5, a6, a7, a8, a9⟩ := hp0 1 (p + 3) (z + 1) _ _ (by omega) (by omega) (by omega) (by omega) h3
        rcases h with ⟨h4, h⟩ | ⟨-, rfl⟩
        · have q3 := z_W_lt hS (p := p1) (by omega) h4
          rcases h with ⟨a, -, rfl⟩ | ⟨p2, z2, T2, u, h5, rfl⟩
          · trivial
          · obtain ⟨b1, b2, b3, b4, b5, b6, b7, b8, b9⟩ := hp0 0 (p1 + 1) z1 _ _ (by omega) (by omega) (by omega) (by omega) h5
            refine ⟨by omega, by omega, by omega, by omega, by omega, by omega, fun j hj => ?_, ?_, ?_⟩
            · rw [t_u_o (by omega), b7 j (by omega), t_u_o (by omega), a7 j (by omega), t_u_o (by omega), t_u_o (by omega), t_ad_lo hj]
            · rw [t_u_o (by omega), b7 _ (by omega), t_u_o (by omega), a7 _ (by omega), t_u_o (by omega), t_u_o (by omega), t_ad_z (by omega)]
            · rw [t_u_o (by omega), b7 _ (by omega), t_u_o (by omega), a7 _ (by omega), t_u_o (by omega), t_u_o (by omega), t_ad_z (by omega)]
        · trivial
    · trivial
  · trivial
theorem g_if_ok (hS : t_S tk c) (hp0 : g_ok c prev) {p z : Int} {T : Int → Int} {o : g_o} (hp : 0 ≤ p) (hc : p < c) (hz : 1 ≤ z) (h : g_if tk prev p z T o) : g_Q c p z T o := by
  rcases h with ⟨a, -, rfl⟩ | ⟨p1, z1, T1, a, h1, h⟩
  · trivial
  · obtain ⟨a1, a2, a3, a4, a5, a6, a7, a8, a9⟩ := g_sum_ok hS hp0 (p := p + 1) (by omega) (by omega) (by omega) h1
    rcases h with ⟨h2, h⟩ | ⟨-, rfl⟩
    · have q2 := z_r_lt hS (p := p1) (by omega) h2
      rcases h with ⟨a, -, rfl⟩ | ⟨p2, z2, T2, b, h3, h⟩
      · trivial
      · obtain ⟨b1, b2, b3, b4, b5, b6, b7, b8, b9⟩ := g_sum_ok hS hp0 (p := p1 + 1) (by omega) (by omega) (by omega) h3
        rcases h with ⟨h4, h⟩ | ⟨-, rfl⟩
        · have q3 := z_W_lt hS (p := p2) (by omega) h4
          rcases h with ⟨a, -, rfl⟩ | ⟨p3, z3, T3, u, h5, h⟩
          · trivial
          · obtain ⟨c1, c2, c3, c4, c5, c6, c7, c8, c9⟩ := hp0 0 (p2 + 1) z2 _ _ (by omega) (by omega) (by omega) (by omega) h5
            rcases h with ⟨h6, h⟩ | ⟨-, rfl⟩
            · have q4 := z_W_lt hS (p := p3) (by omega) h6
              rcases h with ⟨a, -, rfl⟩ | ⟨p4, z4, T4, v, h7, h⟩
              · trivial
              · obtain ⟨d1, d2, d3, d4, d5, d6, d7, d8, d9⟩ := hp0 0 (p3 + 1) z3 _ _ (by omega) (by omega) (by omega) (by omega) h7
                rcases h with ⟨h8, rfl⟩ | ⟨-, rfl⟩
                · have q5 := z_W_lt hS (p := p4) (by omega) h8
                  refine ⟨by omega, by omega, by omega, by omega, by omega, by omega, fun j hj => ?_, ?_, ?_⟩
                  · rw [t_u_o (by omega), d7 j (by omega), t_u_o (by omega), c7 j (by omega), t_u_o (by omega), b7 j (by omega), t_u_o (by omega), t_u_o (by omega), a7 j (by omega), t_ad_lo hj]
                  · rw [t_u_o (by omega), d7 _ (by omega), t_u_o (by omega), c7 _ (by omega), t_u_o (by omega), b7 _ (by omega), t_u_o (by omega), t_u_o (by omega), a7 _ (by omega), t_ad_z (by omega)]
                  · rw [t_u_o (by omega), d7 _ (by omega), t_u_o (by omega), c7 _ (by omega), t_u_o (by omega), b7 _ (by omega), t_u_o (by omega), t_u_o (by omega), a7 _ (by omega), t_ad_z (by omega)]
                · trivial
            · trivial
        · trivial
    · trivial
theorem g_step_ok (hS : t_S tk c) (hp0 : g_ok c prev) {p z : Int} {T : Int → Int} {o : g_o} (hp : 0 ≤ p) (hc : p ≤ c) (hz : 1 ≤ z) (h : g_step tk prev p z T o) : g_Q c p z T o := by
  rcases h with ⟨h1, h⟩ | ⟨h1, h⟩ | ⟨-, -, h⟩
  · exact g_let_ok hS hp0 hp (z_W_lt hS ⟨hp, hc⟩ h1) hz h
  · exact g_if_ok hS hp0 hp (z_W_lt hS ⟨hp, hc⟩ h1) hz h
  · rcases h with ⟨a, -, rfl⟩ | ⟨p1, z1, T1, v, h1, h2⟩
    · trivial
    · have ha := g_sum_ok hS hp0 hp hc hz h1
      have hA := g_sum_A hS hp0 hp hc hz h1
      obtain ⟨a1, a2, a3, a4, a5, a6, a7, a8, a9⟩ := id ha
      rcases h2 with ⟨h2, h3, h4⟩ | ⟨-, rfl⟩
      · have q1 := z_M_lt hS (p := p1) (by omega) h3
        obtain ⟨f1, f2⟩ := hA h2
        rcases h4 with ⟨a, -, rfl⟩ | ⟨p2, z2, T2, u, h4, rfl⟩
        · trivial
        · obtain ⟨b1, b2, b3, b4, b5, b6, b7, b8, b9⟩ := hp0 1 (p1 + 1) z1 _ _ (by omega) (by omega) (by omega) (by omega) h4
          refine ⟨by omega, by omega, by omega, by omega, by omega, by omega, fun j hj => ?_, ?_, ?_⟩
          · rw [t_u_o (by omega), t_u_o (by omega), b7 j (by omega), a7 j hj]
          · rw [t_u_o (by omega), t_u_o (by omega), b7 _ (by omega), a8]
          · rw [t_u_o (by omega), t_u_o (by omega), b7 _ (by omega), a9]
      · exact ha
theorem g_qk_ok (hS : t_S tk c) (hp0 : g_ok c prev) {node : Int} : ∀ (m : Nat) (p z : Int) (T : Int → Int) (last : Int) (o : g_o), 0 ≤ p → p ≤ c → 1 ≤ last → last < z → g_qk tk prev node m p z T last o → g_L c p z T last (if m = 0 then 0 else 1) o ∧ ∀ p' z' T' v, o = .inr (p', z', T', v) → v = node
  | 0, p, z, T, last, o, hp, hc, hl, hl2, ⟨_, h⟩ => by
    subst h
    exact ⟨⟨Int.le_refl _, hc, Int.le_refl _, by simp, fun _ _ _ => rfl⟩, fun _ _ _ _ q => by cases q; rfl⟩
  | m + 1, p, z, T, last, o, hp, hc, hl, hl2, ⟨h2, h3⟩ => by
    have q1 := z_M_lt hS ⟨hp, hc⟩ h2
    rcases h3 with ⟨a, -, rfl⟩ | ⟨p1, z1, T1, v, h3, h4⟩
    · exact ⟨trivial, fun _ _ _ _ q => by cases q⟩
    · obtain ⟨a1, a2, a3, a4, a5, a6, a7, a8, a9⟩ := g_step_ok hS hp0 (p := p + 1) (by omega) (by omega) (by omega) h3
      obtain ⟨ih, iv⟩ := g_qk_ok hS hp0 m p1 z1 _ v o (by omega) a2 (by omega) a6 h4
      refine ⟨?_, iv⟩
      rcases o with a | ⟨p', z', T', v'⟩
      · trivial
      · obtain ⟨i1, i2, i3, i4, i5⟩ := ih
        refine ⟨by omega, i2, by omega, ?_, fun j j1 j2 => ?_⟩
        · rw [if_neg (by omega)]
          split at i4 <;> omega
        · rw [i5 j (by omega) (by omega), t_u_o j2, a7 j j1]
theorem g_steps_ok (hS : t_S tk c) (hp0 : g_ok c prev) {p z : Int} {T : Int → Int} {o : g_o} (hp : 0 ≤ p) (hc : p ≤ c) (hz : 1 ≤ z) (h : g_steps tk prev p z T o) : g_Q c p z T o := by
  rcases h with ⟨a, -, rfl⟩ | ⟨p1, z1, T1, v, h1, h2⟩
  · trivial
  · have ha := g_step_ok hS hp0 hp hc hz h1
    obtain ⟨a1, a2, a3, a4, a5, a6, a7, a8, a9⟩ := id ha
    rcases h2 with ⟨-, rfl⟩ | ⟨h2, m, h3⟩
    · exact ha
    · obtain ⟨ih, iv⟩ := g_qk_ok hS hp0 m p1 (z1 + 1) _ v o (by omega) a2 (by omega) (by omega) h3
      have hm : m ≠ 0 := fun q => by
        subst q
        exact h3.1 h2
      rw [if_neg hm] at ih
      rcases o with a | ⟨p', z', T', v'⟩
      · trivial
      · obtain ⟨i1, i2, i3, i4, i5⟩ := ih
        obtain rfl := iv _ _ _ _ rfl
        refine ⟨by omega, i2, by omega, by omega, by omega, by omega, fun j hj => ?_, ?_, ?_⟩
        · rw [i5 j (by omega) (by omega), t_u_o (by omega), t_ad_lo (by omega), a7 j hj]
        · rw [i5 _ (by omega) (by omega), t_u_o (by omega), t_ad_z (by omega)]
        · rw [i5 _ (by omega) (by omega), t_u_o (by omega), t_ad_z (by omega)]
theorem g_R_ok (hS : t_S tk c) : ∀ n : Nat, g_ok c (g_R tk n)
  | 0 => fun w p z T o hw hp hc hz h => by
    obtain rfl : o = .inl (tk p).2.1 := h
    trivial
  | n + 1 => fun w p z T o hw hp hc hz h => by
    have ih := g_R_ok hS n
    have hc5 : w = 0 ∨ w = 1 ∨ w = 2 ∨ w = 3 ∨ w = 4 := by omega
    rcases hc5 with rfl | rfl | rfl | rfl | rfl
    · exact g_steps_ok hS ih hp hc hz h
    · exact g_step_ok hS ih hp hc hz h
    · exact g_sum_ok hS ih hp hc hz h
    · exact g_prod_ok hS ih hp hc hz h
    · exact g_part_ok hS ih hp hc hz h
end

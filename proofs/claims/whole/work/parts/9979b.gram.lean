/-! STEPS: what holds of what comes out -/
theorem t_ad_lo {T : Int → Int} {z s a j : Int} (h : j < z * 9) : t_ad T z s a j = T j := by
  unfold t_ad
  rw [t_u_o (by omega), t_u_o (by omega), t_z_o (by omega)]
theorem t_ad_0 {T : Int → Int} {z s a j : Int} (h : j = z * 9 + 0) : t_ad T z s a j = s := by
  unfold t_ad
  rw [t_u_o (by omega), t_u_s h]
theorem t_ad_1 {T : Int → Int} {z s a j : Int} (h : j = z * 9 + 1) : t_ad T z s a j = a := by
  unfold t_ad
  rw [t_u_s h]
theorem t_ad_z {T : Int → Int} {z s a j : Int} (h : z * 9 + 2 ≤ j ∧ j < z * 9 + 9) : t_ad T z s a j = 0 := by
  unfold t_ad
  rw [t_u_o (by omega), t_u_o (by omega), t_z_i (by omega)]
theorem t_tm_lo {T : Int → Int} {z last j : Int} {t : z_t} (h : j < z * 9) (hl : last = 0 ∨ j ≠ last * 9 + 7) : t_tm T z last t j = T j := by
  unfold t_tm
  by_cases h1 : t.2.1 = 0
  · rw [if_pos h1]
    by_cases h2 : last = 0
    · rw [if_pos h2, t_u_o (by omega), t_ad_lo h]
    · rw [if_neg h2, t_u_o (by omega), t_u_o (by omega), t_ad_lo h]
  · rw [if_neg h1]
    by_cases h2 : last = 0
    · rw [if_pos h2, t_u_o (by omega), t_u_o (by omega), t_u_o (by omega), t_ad_lo h]
    · rw [if_neg h2, t_u_o (by omega), t_u_o (by omega), t_u_o (by omega), t_u_o (by omega), t_ad_lo h]
theorem t_ix_lo : ∀ (L : List z_t) (T : Int → Int) (z last j : Int), j < z * 9 → (last = 0 ∨ j ≠ last * 9 + 7) → t_ix T z last L j = T j
  | [], _, _, _, _, _, _ => rfl
  | t :: l, T, z, last, j, h, hl => (t_ix_lo l (t_tm T z last t) (z + 1) z j (by omega) (by omega)).trans (t_tm_lo h hl)
theorem t_p0_lo {T : Int → Int} {z j : Int} {x : z_p} (h : j < z * 9) : t_p0 T z x j = T j := by
  unfold t_p0
  rw [t_u_o (by omega), t_ix_lo _ _ _ _ _ (by omega) (.inl rfl), t_u_o (by omega), t_u_o (by omega), t_ix_lo _ _ _ _ _ (by omega) (.inl rfl), t_ad_lo h]
theorem t_ps_lo : ∀ (L : List z_p) (T : Int → Int) (z last j : Int), j < z * 9 → (last = 0 ∨ j ≠ last * 9 + 7) → t_ps T z last L j = T j
  | [], _, _, _, _, _, _ => rfl
  | x :: l, T, z, last, j, h, hl => by
    have hn : 1 ≤ z_pn x := by unfold z_pn; omega
    refine (t_ps_lo l (t_pp T z last x) (z + z_pn x) z j (by omega) (by omega)).trans ?_
    unfold t_pp
    by_cases h2 : last = 0
    · rw [if_pos h2, t_p0_lo h]
    · rw [if_neg h2, t_u_o (by omega), t_p0_lo h]
theorem t_ty_lo {T : Int → Int} {z j : Int} {x : z_T} (h : j < z * 9) : t_ty T z x j = T j := by
  unfold t_ty
  split
  · exact t_ad_lo h
  · split
    · rw [t_u_o (by omega), t_ps_lo _ _ _ _ _ (by omega) (.inl rfl), t_u_o (by omega), t_u_o (by omega), t_ad_lo h]
    · rw [t_u_o (by omega), t_ix_lo _ _ _ _ _ (by omega) (.inl rfl), t_u_o (by omega), t_ad_lo h]
/-- what a loop keeps: all below z but where the last one's next stands -/
def g_L (c p z : Int) (T : Int → Int) (last k : Int) : g_o → Prop
  | .inl _ => True
  | .inr (p', z', T', _) => p ≤ p' ∧ p' ≤ c ∧ z ≤ z' ∧ z' - z + k ≤ p' - p ∧ ∀ j, j < z * 9 → j ≠ last * 9 + 7 → T' j = T j
section
variable {tk : Int → t_t} {c : Int} {prev : g_T}
theorem g_ci_ok (hS : t_S tk c) : ∀ (m : Nat) (k p z : Int) (T : Int → Int) (last : Int) (o : g_o), 0 ≤ p → p ≤ c → 1 ≤ last → last < z → g_ci tk m k p z T last o → g_L c p z T last 0 o
  | 0, k, p, z, T, last, o, hp, hc, hl, hl2, ⟨_, h⟩ => by
    subst h
    exact ⟨Int.le_refl _, hc, Int.le_refl _, by omega, fun _ _ _ => rfl⟩
  | m + 1, k, p, z, T, last, o, hp, hc, hl, hl2, ⟨h1, h2, h3⟩ => by
    have q1 := z_M_lt hS ⟨hp, hc⟩ h2
    rcases h3 with ⟨a, -, rfl⟩ | ⟨L, p1, h3, h4⟩
    · trivial
    · have q2 := z_I_p hS (p := p + 1) (by omega) h3
      have ih := g_ci_ok hS m (k + 1) p1 (z + 1 + L.length) _ z o (by omega) (by omega) (by omega) (by omega) h4
      rcases o with a | ⟨p', z', T', v⟩
      · trivial
      · obtain ⟨i1, i2, i3, i4, i5⟩ := ih
        refine ⟨by omega, i2, by omega, by omega, fun j j1 j2 => ?_⟩
        rw [i5 j (by omega) (by omega), t_u_o (by omega), t_u_o (by omega), t_ix_lo _ _ _ _ _ (by omega) (.inl rfl), t_ad_lo j1]
theorem g_ca_ok (hS : t_S tk c) (hp0 : g_ok c prev) : ∀ (m : Nat) (k p z : Int) (T : Int → Int) (last : Int) (o : g_o), 0 ≤ p → p ≤ c → 1 ≤ last → last < z → g_ca tk prev m k p z T last o → g_L c p z T last 0 o
  | 0, k, p, z, T, last, o, hp, hc, hl, hl2, ⟨_, h⟩ => by
    subst h
    exact ⟨Int.le_refl _, hc, Int.le_refl _, by omega, fun _ _ _ => rfl⟩
  | m + 1, k, p, z, T, last, o, hp, hc, hl, hl2, ⟨h1, h2, h3⟩ => by
    have q1 := z_M_lt hS ⟨hp, hc⟩ h2
    rcases h3 with ⟨a, -, rfl⟩ | ⟨p1, z1, T1, v, h3, h4⟩
    · trivial
    · obtain ⟨a1, a2, a3, a4, a5, a6, a7, a8, a9⟩ := hp0 0 (p + 1) z T _ (by omega) (by omega) (by omega) (by omega) h3
      have ih := g_ca_ok hS hp0 m (k + 1) p1 z1 _ v o (by omega) a2 (by omega) a6 h4
      rcases o with a | ⟨p', z', T', v'⟩
      · trivial
      · obtain ⟨i1, i2, i3, i4, i5⟩ := ih
        refine ⟨by omega, i2, by omega, by omega, fun j j1 j2 => ?_⟩
        rw [i5 j (by omega) (by omega), t_u_o j2, a7 j j1]
theorem g_part_ok (hS : t_S tk c) (hp0 : g_ok c prev) {p z : Int} {T : Int → Int} {o : g_o} (hp : 0 ≤ p) (hc : p ≤ c) (hz : 1 ≤ z) (h : g_part tk prev p z T o) : g_Q c p z T o := by
  -- a call, from ( on
  have c2 : ∀ (n p z : Int) (T : Int → Int) (o : g_o), 0 ≤ p → p ≤ c → 1 ≤ n → n < z → g_c2 tk prev n p z T o → match o with
      | .inl _ => True
      | .inr (p', z', T', v) => p < p' ∧ p' ≤ c ∧ z ≤ z' ∧ z' - z ≤ p' - p ∧ v = n ∧ ∀ j, j < z * 9 → j ≠ n * 9 + 5 → T' j = T j := by
    intro n p z T o hp hc hn hnz h
    rcases h with ⟨h1, h⟩ | ⟨h1, rfl⟩
    · have q1 := z_M_lt hS ⟨hp, hc⟩ h1
      rcases h with ⟨h2, rfl⟩ | ⟨h2, h⟩
      · have q2 := z_M_lt hS (p := p + 1) (by omega) h2
        exact ⟨by omega, by omega, Int.le_refl _, by omega, rfl, fun _ _ _ => rfl⟩
      · rcases h with ⟨a, -, rfl⟩ | ⟨p1, z1, T1, v, h3, m, h4⟩
        · trivial
        · obtain ⟨a1, a2, a3, a4, a5, a6, a7, a8, a9⟩ := hp0 0 (p + 1) z T _ (by omega) (by omega) (by omega) (by omega) h3
          rcases h4 with ⟨a, -, rfl⟩ | ⟨p2, z2, T2, v2, h4, h5⟩
          · trivial
          · obtain ⟨i1, i2, i3, i4, i5⟩ := g_ca_ok hS hp0 m 1 p1 z1 _ v _ (by omega) a2 (by omega) a6 h4
            rcases h5 with ⟨h5, rfl⟩ | ⟨-, rfl⟩
            · have q2 := z_M_lt hS (p := p2) (by omega) h5
              refine ⟨by omega, by omega, by omega, by omega, rfl, fun j j1 j2 => ?_⟩
              rw [i5 j (by omega) (by omega), t_u_o j2, a7 j j1]
            · trivial
    · trivial
  rcases h with ⟨h1, rfl⟩ | ⟨h1, h⟩ | ⟨h1, h⟩ | ⟨h1, h⟩ | ⟨h1, h⟩ | ⟨h1, h⟩ | ⟨-, -, -, -, -, -, rfl⟩
  · have q1 := z_lt hS ⟨hp, hc⟩ (by rw [h1]; decide)
    refine ⟨by omega, by omega, by omega, by omega, by omega, by omega, fun j hj => ?_, ?_, ?_⟩
    · rw [t_u_o (by omega), t_ad_lo hj]
    · rw [t_u_o (by omega), t_ad_z (by omega)]
    · rw [t_u_o (by omega), t_ad_z (by omega)]
  · have q1 := z_M_lt hS ⟨hp, hc⟩ h1
    rcases h with ⟨a, -, rfl⟩ | ⟨p1, z1, T1, v, h2, h3⟩
    · trivial
    · obtain ⟨a1, a2, a3, a4, a5, a6, a7, a8, a9⟩ := hp0 0 (p + 1) (z + 1) _ _ (by omega) (by omega) (by omega) (by omega) h2
      rcases h3 with ⟨h3, h4⟩ | ⟨h3, h4⟩
      · have q2 := z_M_lt hS (p := p1) (by omega) h3
        rcases h4 with ⟨a, -, rfl⟩ | ⟨x, p2, h4, h5⟩
        · trivial
        · have q3 := z_Ty_p hS (p := p1 + 1) (by omega) h4
          rcases h5 with ⟨h5, rfl⟩ | ⟨-, rfl⟩
          · have q4 := z_M_lt hS (p := p2) (by omega) h5
            refine ⟨by omega, by omega, by omega, by omega, by omega, by omega, fun j hj => ?_, ?_, ?_⟩
            · rw [t_u_o (by omega), t_ty_lo (by omega), t_u_o (by omega), t_u_o (by omega), a7 j (by omega), t_ad_lo hj]
            · rw [t_u_o (by omega), t_ty_lo (by omega), t_u_o (by omega), t_u_o (by omega), a7 _ (by omega), t_ad_z (by omega)]
            · rw [t_u_o (by omega), t_ty_lo (by omega), t_u_o (by omega), t_u_o (by omega), a7 _ (by omega), t_ad_z (by omega)]
          · trivial
      · rcases h4 with ⟨h4, rfl⟩ | ⟨-, rfl⟩
        · have q4 := z_M_lt hS (p := p1) (by omega) h4
          refine ⟨by omega, by omega, by omega, by omega, by omega, by omega, fun j hj => ?_, ?_, ?_⟩
          · rw [t_u_o (by omega), a7 j (by omega), t_ad_lo hj]
          · rw [t_u_o (by omega), a7 _ (by omega), t_ad_z (by omega)]
          · rw [t_u_o (by omega), a7 _ (by omega), t_ad_z (by omega)]
        · trivial
  · have q1 := z_W_lt hS ⟨hp, hc⟩ h1
    rcases h with ⟨h2, rfl⟩ | ⟨-, rfl⟩
    · have q2 := z_lt hS (p := p + 1) (by omega) (by rw [h2]; decide)
      refine ⟨by omega, by omega, by omega, by omega, by omega, by omega, fun j hj => ?_, ?_, ?_⟩
      · rw [t_u_o (by omega), t_u_o (by omega), t_ad_lo hj]
      · rw [t_u_o (by omega), t_u_o (by omega), t_ad_z (by omega)]
      · rw [t_u_o (by omega), t_u_o (by omega), t_ad_z (by omega)]
    · trivial
  · have q1 := z_W_lt hS ⟨hp, hc⟩ h1
    rcases h with ⟨a, -, rfl⟩ | ⟨p1, z1, T1, v, h2, rfl⟩
    · trivial
    · obtain ⟨a1, a2, a3, a4, a5, a6, a7, a8, a9⟩ := hp0 4 (p + 1) (z + 1) _ _ (by omega) (by omega) (by omega) (by omega) h2
      refine ⟨by omega, by omega, by omega, by omega, by omega, by omega, fun j hj => ?_, ?_, ?_⟩
      · rw [t_u_o (by omega), a7 j (by omega), t_ad_lo hj]
      · rw [t_u_o (by omega), a7 _ (by omega), t_ad_z (by omega)]
      · rw [t_u_o (by omega), a7 _ (by omega), t_ad_z (by omega)]
  · have q1 := z_W_lt hS ⟨hp, hc⟩ h1
    rcases h with ⟨a, -, rfl⟩ | ⟨p1, z1, T1, v, h2, rfl⟩
    · trivial
    · obtain ⟨a1, a2, a3, a4, a5, a6, a7, a8, a9⟩ := hp0 4 (p + 1) (z + 1) _ _ (by omega) (by omega) (by omega) (by omega) h2
      refine ⟨by omega, by omega, by omega, by omega, by omega, by omega, fun j hj => ?_, ?_, ?_⟩
      · rw [t_u_o (by omega), a7 j (by omega), t_ad_lo hj]
      · rw [t_u_o (by omega), a7 _ (by omega), t_ad_z (by omega)]
      · rw [t_u_o (by omega), a7 _ (by omega), t_ad_z (by omega)]
  · have q1 := z_lt hS ⟨hp, hc⟩ (by rw [h1]; decide)
    rcases h with ⟨h2, h⟩ | ⟨h2, h⟩ | ⟨-, -, -, rfl⟩
    · have q2 := z_M_lt hS (p := p + 1) (by omega) h2
      rcases h with ⟨a, -, rfl⟩ | ⟨p1, z1, T1, v, h3, h4⟩
      · trivial
      · obtain ⟨a1, a2, a3, a4, a5, a6, a7, a8, a9⟩ := hp0 2 (p + 2) (z + 1) _ _ (by omega) (by omega) (by omega) (by omega) h3
        rcases h4 with ⟨h4, rfl⟩ | ⟨-, rfl⟩
        · have q4 := z_M_lt hS (p := p1) (by omega) h4
          refine ⟨by omega, by omega, by omega, by omega, by omega, by omega, fun j hj => ?_, ?_, ?_⟩
          · rw [t_u_o (by omega), a7 j (by omega), t_u_o (by omega), t_u_o (by omega), t_u_o (by omega), t_ad_lo hj]
          · rw [t_u_o (by omega), a7 _ (by omega), t_u_o (by omega), t_u_o (by omega), t_u_o (by omega), t_ad_z (by omega)]
          · rw [t_u_o (by omega), a7 _ (by omega), t_u_o (by omega), t_u_o (by omega), t_u_o (by omega), t_ad_z (by omega)]
        · trivial
    · -- a call
      have q2 : p + 1 < c := by rcases h2 with h2 | h2; exact z_M_lt hS (by omega) h2; exact z_M_lt hS (by omega) h2
      rcases h with ⟨h3, h4⟩ | ⟨h3, h4⟩
      · rcases h4 with ⟨a, -, rfl⟩ | ⟨L, p1, m, h4, h5⟩
        · trivial
        · have q3 := z_I_p hS (p := p + 1 + 1) (by omega) h4
          rcases h5 with ⟨a, -, rfl⟩ | ⟨p2, z2, T2, v2, h5, h6⟩
          · trivial
          · obtain ⟨i1, i2, i3, i4, i5⟩ := g_ci_ok hS m 1 p1 _ _ (z + 1) _ (by omega) (by omega) (by omega) (by omega) h5
            rcases h6 with ⟨h6, h7⟩ | ⟨-, rfl⟩
            · have q4 := z_M_lt hS (p := p2) (by omega) h6
              have h8 := c2 z (p2 + 1) z2 T2 o (by omega) (by omega) hz (by omega) h7
              rcases o with a | ⟨p', z', T', v'⟩
              · trivial
              · obtain ⟨k1, k2, k3, k4, k5, k6⟩ := h8
                refine ⟨by omega, by omega, by omega, by omega, by omega, by omega, fun j hj => ?_, ?_, ?_⟩
                · rw [k6 j (by omega) (by omega), i5 j (by omega) (by omega), t_u_o (by omega), t_u_o (by omega), t_ix_lo _ _ _ _ _ (by omega) (.inl rfl), t_ad_lo (by omega), t_u_o (by omega), t_u_o (by omega), t_u_o (by omega), t_ad_lo hj]
                · rw [k5, k6 _ (by omega) (by omega), i5 _ (by omega) (by omega), t_u_o (by omega), t_u_o (by omega), t_ix_lo _ _ _ _ _ (by omega) (.inl rfl), t_ad_lo (by omega), t_u_o (by omega), t_u_o (by omega), t_u_o (by omega), t_ad_z (by omega)]
                · rw [k5, k6 _ (by omega) (by omega), i5 _ (by omega) (by omega), t_u_o (by omega), t_u_o (by omega), t_ix_lo _ _ _ _ _ (by omega) (.inl rfl), t_ad_lo (by omega), t_u_o (by omega), t_u_o (by omega), t_u_o (by omega), t_ad_z (by omega)]
            · trivial
      · have h8 := c2 z (p + 1) (z + 1) _ o (by omega) (by omega) hz (by omega) h4
        rcases o with a | ⟨p', z', T', v'⟩
        · trivial
        · obtain ⟨k1, k2, k3, k4, k5, k6⟩ := h8
          refine ⟨by omega, by omega, by omega, by omega, by omega, by omega, fun j hj => ?_, ?_, ?_⟩
          · rw [k6 j (by omega) (by omega), t_u_o (by omega), t_u_o (by omega), t_u_o (by omega), t_ad_lo hj]
          · rw [k5, k6 _ (by omega) (by omega), t_u_o (by omega), t_u_o (by omega), t_u_o (by omega), t_ad_z (by omega)]
          · rw [k5, k6 _ (by omega) (by omega), t_u_o (by omega), t_u_o (by omega), t_u_o (by omega), t_ad_z (by omega)]
    · refine ⟨by omega, by omega, by omega, by omega, by omega, by omega, fun j hj => ?_, ?_, ?_⟩
      · rw [t_u_o (by omega), t_u_o (by omega), t_ad_lo hj]
      · rw [t_u_o (by omega), t_u_o (by omega), t_ad_z (by omega)]
      · rw [t_u_o (by omega), t_u_o (by omega), t_ad_z (by omega)]
  · trivial
theorem g_pk_ok (hS : t_S tk c) (hp0 : g_ok c prev) {node : Int} : ∀ (m : Nat) (p z : Int) (T : Int → Int) (last : Int) (o : g_o), 0 ≤ p → p ≤ c → 1 ≤ last → last < z → g_pk tk prev node m p z T last o → g_L c p z T last (if m = 0 then 0 else 1) o ∧ ∀ p' z' T' v, o = .inr (p', z', T', v) → v = node
  | 0, p, z, T, last, o, hp, hc, hl, hl2, ⟨_, _, h⟩ => by
    subst h
    exact ⟨⟨Int.le_refl _, hc, Int.le_refl _, by simp, fun _ _ _ => rfl⟩, fun _ _ _ _ q => by cases q; rfl⟩
  | m + 1, p, z, T, last, o, hp, hc, hl, hl2, h => by
    rcases h with ⟨h2, h3⟩ | ⟨h2, h3⟩
    · have q1 := z_M_lt hS ⟨hp, hc⟩ h2
      rcases h3 with ⟨a, -, rfl⟩ | ⟨p1, z1, T1, v, h3, h4⟩
      · exact ⟨trivial, fun _ _ _ _ q => by cases q⟩
      · obtain ⟨a1, a2, a3, a4, a5, a6, a7, a8, a9⟩ := g_part_ok hS hp0 (p := p + 1) (by omega) (by omega) (by omega) h3
        obtain ⟨ih, iv⟩ := g_pk_ok hS hp0 m p1 z1 _ v o (by omega) a2 (by omega) a6 h4
        refine ⟨?_, iv⟩
        rcases o with a | ⟨p', z', T', v'⟩
        · trivial
        · obtain ⟨i1, i2, i3, i4, i5⟩ := ih
          refine ⟨by omega, i2, by omega, ?_, fun j j1 j2 => ?_⟩
          · rw [if_neg (by omega)]
            split at i4 <;> omega
          · rw [i5 j (by omega) (by omega), t_u_o (by omega), t_u_o j2, a7 j j1]
    · have q1 := z_M_lt hS ⟨hp, hc⟩ h2
      rcases h3 with ⟨h3, -, h4⟩ | ⟨-, rfl⟩
      · have q2 := z_lt hS (p := p + 1) (by omega) (by rw [h3]; decide)
        obtain ⟨ih, iv⟩ := g_pk_ok hS hp0 m (p + 2) (z + 1) _ z o (by omega) (by omega) (by omega) (by omega) h4
        refine ⟨?_, iv⟩
        rcases o with a | ⟨p', z', T', v'⟩
        · trivial
        · obtain ⟨i1, i2, i3, i4, i5⟩ := ih
          refine ⟨by omega, i2, by omega, ?_, fun j j1 j2 => ?_⟩
          · rw [if_neg (by omega)]
            split at i4 <;> omega
          · rw [i5 j (by omega) (by omega), t_u_o (by omega), t_u_o j2, t_u_o (by omega), t_ad_lo j1]
      · exact ⟨trivial, fun _ _ _ _ q => by cases q⟩
theorem g_prod_ok (hS : t_S tk c) (hp0 : g_ok c prev) {p z : Int} {T : Int → Int} {o : g_o} (hp : 0 ≤ p) (hc : p ≤ c) (hz : 1 ≤ z) (h : g_prod tk prev p z T o) : g_Q c p z T o := by
  rcases h with ⟨a, -, rfl⟩ | ⟨p1, z1, T1, v, h1, h2⟩
  · trivial
  · have ha := g_part_ok hS hp0 hp hc hz h1
    obtain ⟨a1, a2, a3, a4, a5, a6, a7, a8, a9⟩ := id ha
    rcases h2 with ⟨-, -, rfl⟩ | ⟨h2, m, h3⟩
    · exact ha
    · obtain ⟨ih, iv⟩ := g_pk_ok hS hp0 m p1 (z1 + 1) _ v o (by omega) a2 (by omega) (by omega) h3
      have hm : m ≠ 0 := fun q => by
        subst q
        rcases h2 with h2 | h2
        · exact h3.1 h2
        · exact h3.2.1 h2
      rw [if_neg hm] at ih
      rcases o with a | ⟨p', z', T', v'⟩
      · trivial
      · obtain ⟨i1, i2, i3, i4, i5⟩ := ih
        obtain rfl := iv _ _ _ _ rfl
        refine ⟨by omega, i2, by omega, by omega, by omega, by omega, fun j hj => ?_, ?_, ?_⟩
        · rw [i5 j (by omega) (by omega), t_u_o (by omega), t_ad_lo (by omega), a7 j hj]
        · rw [i5 _ (by omega) (by omega), t_u_o (by omega), t_ad_z (by omega)]
        · rw [i5 _ (by omega) (by omega), t_u_o (by omega), t_ad_z (by omega)]
theorem g_sk_ok (hS : t_S tk c) (hp0 : g_ok c prev) {node : Int} : ∀ (m : Nat) (p z : Int) (T : Int → Int) (last : Int) (o : g_o), 0 ≤ p → p ≤ c → 1 ≤ last → last < z → g_sk tk prev node m p z T last o → g_L c p z T last (if m = 0 then 0 else 1) o ∧ ∀ p' z' T' v, o = .inr (p', z', T', v) → v = node
  | 0, p, z, T, last, o, hp, hc, hl, hl2, ⟨_, h⟩ => by
    subst h
    exact ⟨⟨Int.le_refl _, hc, Int.le_refl _, by simp, fun _ _ _ => rfl⟩, fun _ _ _ _ q => by cases q; rfl⟩
  | m + 1, p, z, T, last, o, hp, hc, hl, hl2, ⟨s, h2, h3⟩ => by
    have q1 := z_pm_p hS ⟨hp, hc⟩ h2
    rcases h3 with ⟨a, -, rfl⟩ | ⟨p1, z1, T1, v, h3, h4⟩
    · exact ⟨trivial, fun _ _ _ _ q => by cases q⟩
    · obtain ⟨a1, a2, a3, a4, a5, a6, a7, a8, a9⟩ := g_prod_ok hS hp0 (p := p + 1) (by omega) (by omega) (by omega) h3
      obtain ⟨ih, iv⟩ := g_sk_ok hS hp0 m p1 z1 _ v o (by omega) a2 (by omega) a6 h4
      refine ⟨?_, iv⟩
      rcases o with a | ⟨p', z', T', v'⟩
      · trivial
      · obtain ⟨i1, i2, i3, i4, i5⟩ := ih
        refine ⟨by omega, i2, by omega, ?_, fun j j1 j2 => ?_⟩
        · rw [if_neg (by omega)]
          split at i4 <;> omega
        · rw [i5 j (by omega) (by omega), t_u_o (by omega), t_u_o j2, a7 j j1]
theorem g_sum_ok (hS : t_S tk c) (hp0 : g_ok c prev) {p z : Int} {T : Int → Int} {o : g_o} (hp : 0 ≤ p) (hc : p ≤ c) (hz : 1 ≤ z) (h : g_sum tk prev p z T o) : g_Q c p z T o := by
  rcases h with ⟨a, -, rfl⟩ | ⟨p1, z1, T1, v, h1, h2⟩
  · trivial
  · have ha := g_prod_ok hS hp0 hp hc hz h1
    obtain ⟨a1, a2, a3, a4, a5, a6, a7, a8, a9⟩ := id ha
    rcases h2 with ⟨-, rfl⟩ | ⟨h2, m, h3⟩
    · exact ha
    · obtain ⟨ih, iv⟩ := g_sk_ok hS hp0 m p1 (z1 + 1) _ v o (by omega) a2 (by omega) (by omega) h3
      have hm : m ≠ 0 := fun q => by
        subst q
        exact h2 h3.1
      rw [if_neg hm] at ih
      rcases o with a | ⟨p', z', T', v'⟩
      · trivial
      · obtain ⟨i1, i2, i3, i4, i5⟩ := ih
        obtain rfl := iv _ _ _ _ rfl
        refine ⟨by omega, i2, by omega, by omega, by omega, by omega, fun j hj => ?_, ?_, ?_⟩
        · rw [i5 j (by omega) (by omega), t_u_o (by omega), t_ad_lo (by omega), a7 j hj]
        · rw [i5 _ (by omega) (by omega), t_u_o (by omega), t_ad_z (by omega)]
        · rw [i5 _ (by omega) (by omega), t_u_o (by omega), t_ad_z (by omega)]
end

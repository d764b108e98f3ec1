/-! STEPS: something always comes out -/
section
variable {tk : Int → t_t} {c : Int} {prev : g_T}
theorem g_ci_ex (hS : t_S tk c) : ∀ (n : Nat) (k p z : Int) (T : Int → Int) (last : Int), 4 ≤ k + n → 0 ≤ p → p ≤ c → ∃ m o, g_ci tk m k p z T last o
  | 0, k, p, z, T, last, hk, _, _ => ⟨0, _, .inl (by omega), rfl⟩
  | n + 1, k, p, z, T, last, hk, hp, hc => by
    by_cases h1 : k < 4 ∧ z_M (tk p) 44
    · have q1 := z_M_lt hS ⟨hp, hc⟩ h1.2
      rcases z_I_ex hS (p := p + 1) (by omega) with ⟨L, p1, h2⟩ | ⟨a, h2⟩
      · have q2 := z_I_p hS (p := p + 1) (by omega) h2
        obtain ⟨m, o, h3⟩ := g_ci_ex hS n (k + 1) p1 (z + 1 + L.length) (t_u (t_u (t_ix (t_ad T z 17 (tk (p + 1)).2.1) (z + 1) 0 L) (z * 9 + 5) (z + 1)) (last * 9 + 7) z) z (by omega) (by omega) (by omega)
        exact ⟨m + 1, o, h1.1, h1.2, .inr ⟨L, p1, h2, h3⟩⟩
      · exact ⟨1, .inl a, h1.1, h1.2, .inl ⟨a, h2, rfl⟩⟩
    · refine ⟨0, _, ?_, rfl⟩
      by_cases h2 : 4 ≤ k
      · exact .inl h2
      · exact .inr (fun h => h1 ⟨by omega, h⟩)
theorem g_ca_ex (hS : t_S tk c) (hp0 : g_ok c prev) (hx : g_ex c prev) : ∀ (n : Nat) (k p z : Int) (T : Int → Int) (last : Int), 5 ≤ k + n → 0 ≤ p → p ≤ c → 1 ≤ z → ∃ m o, g_ca tk prev m k p z T last o
  | 0, k, p, z, T, last, hk, _, _, _ => ⟨0, _, .inl (by omega), rfl⟩
  | n + 1, k, p, z, T, last, hk, hp, hc, hz => by
    by_cases h1 : k < 5 ∧ z_M (tk p) 44
    · have q1 := z_M_lt hS ⟨hp, hc⟩ h1.2
      obtain ⟨o1, h2⟩ := hx 0 (p + 1) z T (by omega) (by omega) (by omega) hz
      rcases o1 with a | ⟨p1, z1, T1, v⟩
      · exact ⟨1, .inl a, h1.1, h1.2, .inl ⟨a, h2, rfl⟩⟩
      · obtain ⟨a1, a2, a3, -⟩ := hp0 0 (p + 1) z T _ (by omega) (by omega) (by omega) hz h2
        obtain ⟨m, o, h3⟩ := g_ca_ex hS hp0 hx n (k + 1) p1 z1 (t_u T1 (last * 9 + 7) v) v (by omega) (by omega) a2 (by omega)
        exact ⟨m + 1, o, h1.1, h1.2, .inr ⟨p1, z1, T1, v, h2, h3⟩⟩
    · refine ⟨0, _, ?_, rfl⟩
      by_cases h2 : 5 ≤ k
      · exact .inl h2
      · exact .inr (fun h => h1 ⟨by omega, h⟩)
theorem g_c2_ex (hS : t_S tk c) (hp0 : g_ok c prev) (hx : g_ex c prev) (n p z : Int) (T : Int → Int) (hp : 0 ≤ p) (hc : p ≤ c) (hz : 1 ≤ z) : ∃ o, g_c2 tk prev n p z T o := by
  refine g_m_ex (fun h1 => ?_)
  have q1 := z_M_lt hS ⟨hp, hc⟩ h1
  by_cases h2 : z_M (tk (p + 1)) 41
  · exact ⟨_, .inl ⟨h2, rfl⟩⟩
  · obtain ⟨o, h3⟩ := g_b_ex (P := prev 0 (p + 1) z T) (K := fun p1 z1 T1 v o => ∃ m, g_b (g_ca tk prev m 1 p1 z1 (t_u T1 (n * 9 + 5) v) v) (fun p2 z2 T2 _ o => g_m tk p2 41 (fun o => o = .inr (p2 + 1, z2, T2, n)) o) o) (hx 0 (p + 1) z T (by omega) (by omega) (by omega) hz) (fun p1 z1 T1 v h4 => by
      obtain ⟨a1, a2, a3, -⟩ := hp0 0 (p + 1) z T _ (by omega) (by omega) (by omega) hz h4
      obtain ⟨m, o, h5⟩ := g_ca_ex hS hp0 hx 4 1 p1 z1 (t_u T1 (n * 9 + 5) v) v (by omega) (by omega) a2 (by omega)
      rcases o with a | ⟨p2, z2, T2, w⟩
      · exact ⟨.inl a, m, .inl ⟨a, h5, rfl⟩⟩
      · obtain ⟨o, h6⟩ := g_m_ex (tk := tk) (p := p2) (m := 41) (K := fun o => o = .inr (p2 + 1, z2, T2, n)) (fun _ => ⟨_, rfl⟩)
        exact ⟨o, m, .inr ⟨p2, z2, T2, w, h5, h6⟩⟩)
    exact ⟨o, .inr ⟨h2, h3⟩⟩
theorem g_part_ex (hS : t_S tk c) (hp0 : g_ok c prev) (hx : g_ex c prev) (p z : Int) (T : Int → Int) (hp : 0 ≤ p) (hc : p ≤ c) (hz : 1 ≤ z) : ∃ o, g_part tk prev p z T o := by
  by_cases k1 : (tk p).1 = 4
  · exact ⟨_, .inl ⟨k1, rfl⟩⟩
  by_cases k2 : z_M (tk p) 40
  · have q1 := z_M_lt hS ⟨hp, hc⟩ k2
    have : ∃ o, g_paren tk prev p z T o := by
      refine g_b_ex (hx 0 (p + 1) (z + 1) _ (by omega) (by omega) (by omega) (by omega)) (fun p1 z1 T1 v h => ?_)
      obtain ⟨a1, a2, -⟩ := hp0 0 (p + 1) (z + 1) _ _ (by omega) (by omega) (by omega) (by omega) h
      by_cases h3 : z_M (tk p1) 58
      · have q2 := z_M_lt hS (p := p1) (by omega) h3
        rcases z_Ty_ex hS (p := p1 + 1) (by omega) with ⟨x, p2, h4⟩ | ⟨a, h4⟩
        · obtain ⟨o, h5⟩ := g_m_ex (tk := tk) (p := p2) (m := 41) (K := fun o => o = .inr (p2 + 1, z1 + z_tn x, t_u (t_ty (t_u (t_u T1 (z * 9 + 5) v) (z * 9 + 0) 10) z1 x) (z * 9 + 6) z1, z)) (fun _ => ⟨_, rfl⟩)
          exact ⟨o, .inl ⟨h3, .inr ⟨x, p2, h4, h5⟩⟩⟩
        · exact ⟨_, .inl ⟨h3, .inl ⟨a, h4, rfl⟩⟩⟩
      · obtain ⟨o, h5⟩ := g_m_ex (tk := tk) (p := p1) (m := 41) (K := fun o => o = .inr (p1 + 1, z1, t_u T1 (z * 9 + 5) v, z)) (fun _ => ⟨_, rfl⟩)
        exact ⟨o, .inr ⟨h3, h5⟩⟩
    obtain ⟨o, h⟩ := this
    exact ⟨o, .inr (.inl ⟨k2, h⟩)⟩
  by_cases k3 : z_W (tk p) 12462
  · obtain ⟨o, h⟩ : ∃ o, g_len tk p z T o := g_n_ex (fun _ => ⟨_, rfl⟩)
    exact ⟨o, .inr (.inr (.inl ⟨k3, h⟩))⟩
  by_cases k4 : z_W (tk p) 14519
  · have q1 := z_W_lt hS ⟨hp, hc⟩ k4
    obtain ⟨o, h⟩ := g_b_ex (P := prev 4 (p + 1) (z + 1) (t_ad T z 7 (tk p).2.1)) (K := fun p1 z1 T1 v o => o = .inr (p1, z1, t_u T1 (z * 9 + 5) v, z)) (hx 4 _ _ _ (by omega) (by omega) (by omega) (by omega)) (fun _ _ _ _ _ => ⟨_, rfl⟩)
    exact ⟨o, .inr (.inr (.inr (.inl ⟨k4, h⟩)))⟩
  by_cases k5 : z_W (tk p) 16052
  · have q1 := z_W_lt hS ⟨hp, hc⟩ k5
    obtain ⟨o, h⟩ := g_b_ex (P := prev 4 (p + 1) (z + 1) (t_ad T z 8 (tk p).2.1)) (K := fun p1 z1 T1 v o => o = .inr (p1, z1, t_u T1 (z * 9 + 5) v, z)) (hx 4 _ _ _ (by omega) (by omega) (by omega) (by omega)) (fun _ _ _ _ _ => ⟨_, rfl⟩)
    exact ⟨o, .inr (.inr (.inr (.inr (.inl ⟨k5, h⟩))))⟩
  by_cases k6 : (tk p).1 = 3
  · have q1 := z_lt hS ⟨hp, hc⟩ (by rw [k6]; decide)
    suffices h : ∃ o, g_name tk prev p z T o by
      obtain ⟨o, h⟩ := h
      exact ⟨o, .inr (.inr (.inr (.inr (.inr (.inl ⟨k6, h⟩)))))⟩
    by_cases h1 : z_M (tk (p + 1)) 91
    · have q2 := z_M_lt hS (p := p + 1) (by omega) h1
      obtain ⟨o, h⟩ := g_b_ex (P := prev 2 (p + 2) (z + 1) (t_u (t_u (t_u (t_ad T z 2 (tk p).2.1) (z * 9 + 2) (tk p).2.1) (z * 9 + 3) (tk p).2.2.1) (z * 9 + 0) 3)) (K := fun p1 z1 T1 v o => g_m tk p1 93 (fun o => o = .inr (p1 + 1, z1, t_u T1 (z * 9 + 5) v, z)) o) (hx 2 _ _ _ (by omega) (by omega) (by omega) (by omega)) (fun _ _ _ _ _ => g_m_ex (fun _ => ⟨_, rfl⟩))
      exact ⟨o, .inl ⟨h1, h⟩⟩
    · by_cases h2 : z_M (tk (p + 1)) 123 ∨ z_M (tk (p + 1)) 40
      · have q2 : p + 1 < c := by rcases h2 with h2 | h2; exact z_M_lt hS (by omega) h2; exact z_M_lt hS (by omega) h2
        generalize hT : t_u (t_u (t_u (t_ad T z 2 (tk p).2.1) (z * 9 + 2) (tk p).2.1) (z * 9 + 3) (tk p).2.2.1) (z * 9 + 0) 5 = T0
        suffices h : ∃ o, g_call tk prev z (p + 1) (z + 1) T0 o by
          obtain ⟨o, h⟩ := h
          exact ⟨o, .inr (.inl ⟨h2, by rw [hT]; exact h⟩)⟩
        by_cases h3 : z_M (tk (p + 1)) 123
        · rcases z_I_ex hS (p := p + 1 + 1) (by omega) with ⟨L, p1, h4⟩ | ⟨a, h4⟩
          · have q3 := z_I_p hS (p := p + 1 + 1) (by omega) h4
            obtain ⟨m, o, h5⟩ := g_ci_ex hS 3 1 p1 (z + 1 + 1 + L.length) (t_u (t_u (t_ix (t_ad T0 (z + 1) 17 (tk (p + 1 + 1)).2.1) (z + 1 + 1) 0 L) ((z + 1) * 9 + 5) (z + 1 + 1)) (z * 9 + 6) (z + 1)) (z + 1) (by omega) (by omega) (by omega)
            rcases o with a | ⟨p2, z2, T2, w⟩
            · exact ⟨.inl a, .inl ⟨h3, .inr ⟨L, p1, m, h4, .inl ⟨a, h5, rfl⟩⟩⟩⟩
            · obtain ⟨i1, i2, i3, i4, i5⟩ := g_ci_ok hS m 1 p1 _ _ (z + 1) _ (by omega) (by omega) (by omega) (by omega) h5
              obtain ⟨o, h6⟩ := g_m_ex (tk := tk) (p := p2) (m := 125) (K := fun o => g_c2 tk prev z (p2 + 1) z2 T2 o) (fun h => g_c2_ex hS hp0 hx z (p2 + 1) z2 T2 (by omega) (by have := z_M_lt hS (p := p2) (by omega) h; omega) (by omega))
              exact ⟨o, .inl ⟨h3, .inr ⟨L, p1, m, h4, .inr ⟨p2, z2, T2, w, h5, h6⟩⟩⟩⟩
          · exact ⟨.inl a, .inl ⟨h3, .inl ⟨a, h4, rfl⟩⟩⟩
        · obtain ⟨o, h4⟩ := g_c2_ex hS hp0 hx z (p + 1) (z + 1) T0 (by omega) (by omega) (by omega)
          exact ⟨o, .inr ⟨h3, h4⟩⟩
      · exact ⟨_, .inr (.inr ⟨h1, fun h => h2 (.inl h), fun h => h2 (.inr h), rfl⟩)⟩
  exact ⟨_, .inr (.inr (.inr (.inr (.inr (.inr ⟨k1, k2, k3, k4, k5, k6, rfl⟩)))))⟩
theorem g_pk_ex (hS : t_S tk c) (hp0 : g_ok c prev) (hx : g_ex c prev) (node : Int) : ∀ (t : Nat) (p z : Int) (T : Int → Int) (last : Int), c ≤ p + t → 0 ≤ p → p ≤ c → 1 ≤ z → ∃ m o, g_pk tk prev node m p z T last o := by
  intro t
  induction t with
  | zero =>
    intro p z T last h1 h2 h3 h4
    have e : p = c := by omega
    refine ⟨0, _, fun h => ?_, fun h => ?_, rfl⟩
    · have := z_M_lt hS ⟨h2, h3⟩ h; omega
    · have := z_M_lt hS ⟨h2, h3⟩ h; omega
  | succ t ih =>
    intro p z T last h1 h2 h3 h4
    by_cases k1 : z_M (tk p) 42
    · have q1 := z_M_lt hS ⟨h2, h3⟩ k1
      obtain ⟨o, h5⟩ := g_part_ex hS hp0 hx (p + 1) z T (by omega) (by omega) h4
      rcases o with a | ⟨p1, z1, T1, v⟩
      · exact ⟨1, .inl a, .inl ⟨k1, .inl ⟨a, h5, rfl⟩⟩⟩
      · obtain ⟨a1, a2, a3, -⟩ := g_part_ok hS hp0 (p := p + 1) (by omega) (by omega) h4 h5
        obtain ⟨m, o, h6⟩ := ih p1 z1 (t_u (t_u T1 (last * 9 + 7) v) (v * 9 + 8) 42) v (by omega) (by omega) a2 (by omega)
        exact ⟨m + 1, o, .inl ⟨k1, .inr ⟨p1, z1, T1, v, h5, h6⟩⟩⟩
    · by_cases k2 : z_M (tk p) 47
      · have q1 := z_M_lt hS ⟨h2, h3⟩ k2
        by_cases k3 : (tk (p + 1)).1 = 4 ∧ ¬ (tk (p + 1)).2.2.1 = 0
        · have q2 := z_lt hS (p := p + 1) (by omega) (by rw [k3.1]; decide)
          obtain ⟨m, o, h6⟩ := ih (p + 2) (z + 1) (t_u (t_u (t_u (t_ad T z 1 (tk (p + 1)).2.1) (z * 9 + 4) (tk (p + 1)).2.2.1) (last * 9 + 7) z) (z * 9 + 8) 47) z (by omega) (by omega) (by omega) (by omega)
          exact ⟨m + 1, o, .inr ⟨k2, .inl ⟨k3.1, k3.2, h6⟩⟩⟩
        · exact ⟨1, _, .inr ⟨k2, .inr ⟨k3, rfl⟩⟩⟩
      · exact ⟨0, _, k1, k2, rfl⟩
theorem g_prod_ex (hS : t_S tk c) (hp0 : g_ok c prev) (hx : g_ex c prev) (p z : Int) (T : Int → Int) (hp : 0 ≤ p) (hc : p ≤ c) (hz : 1 ≤ z) : ∃ o, g_prod tk prev p z T o := by
  refine g_b_ex (g_part_ex hS hp0 hx p z T hp hc hz) (fun p1 z1 T1 v h => ?_)
  obtain ⟨a1, a2, a3, -⟩ := g_part_ok hS hp0 hp hc hz h
  by_cases k : z_M (tk p1) 42 ∨ z_M (tk p1) 47
  · obtain ⟨m, o, h2⟩ := g_pk_ex hS hp0 hx z1 (c - p1).toNat p1 (z1 + 1) (t_u (t_ad T1 z1 12 (T1 (v * 9 + 1))) (z1 * 9 + 5) v) v (by omega) (by omega) a2 (by omega)
    exact ⟨o, .inr ⟨k, m, h2⟩⟩
  · exact ⟨_, .inl ⟨fun h => k (.inl h), fun h => k (.inr h), rfl⟩⟩
theorem z_pm_ex {x : t_t} (h : ¬ z_no x) : ∃ s, z_pm x s := by
  unfold z_no at h
  by_cases h1 : x.1 = 5 ∧ x.2.2.1 = 43
  · exact ⟨1, .inl ⟨h1.1, h1.2, rfl⟩⟩
  · exact ⟨-1, .inr (by omega)⟩
theorem g_sk_ex (hS : t_S tk c) (hp0 : g_ok c prev) (hx : g_ex c prev) (node : Int) : ∀ (t : Nat) (p z : Int) (T : Int → Int) (last : Int), c ≤ p + t → 0 ≤ p → p ≤ c → 1 ≤ z → ∃ m o, g_sk tk prev node m p z T last o := by
  intro t
  induction t with
  | zero =>
    intro p z T last h1 h2 h3 h4
    have hc := hS.2.2.2.2
    refine ⟨0, _, ⟨?_, ?_⟩, rfl⟩
    · rw [show p = c by omega]; omega
    · rw [show p = c by omega]; omega
  | succ t ih =>
    intro p z T last h1 h2 h3 h4
    by_cases k1 : z_no (tk p)
    · exact ⟨0, _, k1, rfl⟩
    · obtain ⟨s, hs⟩ := z_pm_ex k1
      have q1 := z_pm_p hS ⟨h2, h3⟩ hs
      obtain ⟨o, h5⟩ := g_prod_ex hS hp0 hx (p + 1) z T (by omega) (by omega) h4
      rcases o with a | ⟨p1, z1, T1, v⟩
      · exact ⟨1, .inl a, s, hs, .inl ⟨a, h5, rfl⟩⟩
      · obtain ⟨a1, a2, a3, -⟩ := g_prod_ok hS hp0 (p := p + 1) (by omega) (by omega) h4 h5
        obtain ⟨m, o, h6⟩ := ih p1 z1 (t_u (t_u T1 (last * 9 + 7) v) (v * 9 + 8) (tk p).2.2.1) v (by omega) (by omega) a2 (by omega)
        exact ⟨m + 1, o, s, hs, .inr ⟨p1, z1, T1, v, h5, h6⟩⟩
theorem g_sum_ex (hS : t_S tk c) (hp0 : g_ok c prev) (hx : g_ex c prev) (p z : Int) (T : Int → Int) (hp : 0 ≤ p) (hc : p ≤ c) (hz : 1 ≤ z) : ∃ o, g_sum tk prev p z T o := by
  refine g_b_ex (g_prod_ex hS hp0 hx p z T hp hc hz) (fun p1 z1 T1 v h => ?_)
  obtain ⟨a1, a2, a3, -⟩ := g_prod_ok hS hp0 hp hc hz h
  by_cases k : z_no (tk p1)
  · exact ⟨_, .inl ⟨k, rfl⟩⟩
  · obtain ⟨m, o, h2⟩ := g_sk_ex hS hp0 hx z1 (c - p1).toNat p1 (z1 + 1) (t_u (t_ad T1 z1 11 (T1 (v * 9 + 1))) (z1 * 9 + 5) v) v (by omega) (by omega) a2 (by omega)
    exact ⟨o, .inr ⟨k, m, h2⟩⟩
theorem g_step_ex (hS : t_S tk c) (hp0 : g_ok c prev) (hx : g_ex c prev) (p z : Int) (T : Int → Int) (hp : 0 ≤ p) (hc : p ≤ c) (hz : 1 ≤ z) : ∃ o, g_step tk prev p z T o := by
  by_cases k1 : z_W (tk p) 12468
  · have q0 := z_W_lt hS ⟨hp, hc⟩ k1
    have : ∃ o, g_let tk prev p z T o := by
      refine g_n_ex (fun h1 => g_m_ex (fun h2 => ?_))
      have q1 := z_lt hS (p := p + 1) (by omega) (by rw [h1]; decide)
      have q2 := z_M_lt hS (p := p + 2) (by omega) h2
      refine g_b_ex (hx 1 _ _ _ (by omega) (by omega) (by omega) (by omega)) (fun p1 z1 T1 v h3 => g_w_ex (fun h4 => ?_))
      obtain ⟨a1, a2, a3, -⟩ := hp0 1 _ _ _ _ (by omega) (by omega) (by omega) (by omega) h3
      have q3 := z_W_lt hS (p := p1) (by omega) h4
      exact g_b_ex (hx 0 _ _ _ (by omega) (by omega) (by omega) (by omega)) (fun _ _ _ _ _ => ⟨_, rfl⟩)
    obtain ⟨o, h⟩ := this
    exact ⟨o, .inl ⟨k1, h⟩⟩
  by_cases k2 : z_W (tk p) 294
  · have q0 := z_W_lt hS ⟨hp, hc⟩ k2
    have : ∃ o, g_if tk prev p z T o := by
      refine g_b_ex (g_sum_ex hS hp0 hx _ _ _ (by omega) (by omega) (by omega)) (fun p1 z1 T1 a h1 => g_r_ex (fun h2 => ?_))
      obtain ⟨a1, a2, a3, -⟩ := g_sum_ok hS hp0 (p := p + 1) (by omega) (by omega) (by omega) h1
      have q1 := z_r_lt hS (p := p1) (by omega) h2
      refine g_b_ex (g_sum_ex hS hp0 hx _ _ _ (by omega) (by omega) (by omega)) (fun p2 z2 T2 b h3 => g_w_ex (fun h4 => ?_))
      obtain ⟨b1, b2, b3, -⟩ := g_sum_ok hS hp0 (p := p1 + 1) (by omega) (by omega) (by omega) h3
      have q2 := z_W_lt hS (p := p2) (by omega) h4
      refine g_b_ex (hx 0 _ _ _ (by omega) (by omega) (by omega) (by omega)) (fun p3 z3 T3 u h5 => g_w_ex (fun h6 => ?_))
      obtain ⟨c1, c2, c3, -⟩ := hp0 0 _ _ _ _ (by omega) (by omega) (by omega) (by omega) h5
      have q3 := z_W_lt hS (p := p3) (by omega) h6
      exact g_b_ex (hx 0 _ _ _ (by omega) (by omega) (by omega) (by omega)) (fun p4 z4 T4 v h7 => g_w_ex (fun h8 => ⟨_, rfl⟩))
    obtain ⟨o, h⟩ := this
    exact ⟨o, .inr (.inl ⟨k2, h⟩)⟩
  obtain ⟨o, h⟩ := g_b_ex (P := g_sum tk prev p z T) (K := fun p1 z1 T1 v o => (T1 (v * 9 + 0) = 3 ∧ z_M (tk p1) 1 ∧ g_b (prev 1 (p1 + 1) z1 T1) (fun p2 z2 T2 u o => o = .inr (p2, z2, t_u (t_u T2 (T1 (v * 9 + 5) * 9 + 7) u) (v * 9 + 0) 4, v)) o) ∨ (¬ (T1 (v * 9 + 0) = 3 ∧ z_M (tk p1) 1) ∧ o = .inr (p1, z1, T1, v))) (g_sum_ex hS hp0 hx p z T hp hc hz) (fun p1 z1 T1 v h1 => by
    obtain ⟨a1, a2, a3, -⟩ := g_sum_ok hS hp0 hp hc hz h1
    by_cases k3 : T1 (v * 9 + 0) = 3 ∧ z_M (tk p1) 1
    · have q1 := z_M_lt hS (p := p1) (by omega) k3.2
      obtain ⟨o, h2⟩ := g_b_ex (P := prev 1 (p1 + 1) z1 T1) (K := fun p2 z2 T2 u o => o = .inr (p2, z2, t_u (t_u T2 (T1 (v * 9 + 5) * 9 + 7) u) (v * 9 + 0) 4, v)) (hx 1 _ _ _ (by omega) (by omega) (by omega) (by omega)) (fun _ _ _ _ _ => ⟨_, rfl⟩)
      exact ⟨o, .inl ⟨k3.1, k3.2, h2⟩⟩
    · exact ⟨_, .inr ⟨k3, rfl⟩⟩)
  exact ⟨o, .inr (.inr ⟨k1, k2, h⟩)⟩
theorem g_qk_ex (hS : t_S tk c) (hp0 : g_ok c prev) (hx : g_ex c prev) (node : Int) : ∀ (t : Nat) (p z : Int) (T : Int → Int) (last : Int), c ≤ p + t → 0 ≤ p → p ≤ c → 1 ≤ z → ∃ m o, g_qk tk prev node m p z T last o := by
  intro t
  induction t with
  | zero =>
    intro p z T last h1 h2 h3 h4
    refine ⟨0, _, fun h => ?_, rfl⟩
    have := z_M_lt hS ⟨h2, h3⟩ h; omega
  | succ t ih =>
    intro p z T last h1 h2 h3 h4
    by_cases k1 : z_M (tk p) 59
    · have q1 := z_M_lt hS ⟨h2, h3⟩ k1
      obtain ⟨o, h5⟩ := g_step_ex hS hp0 hx (p + 1) z T (by omega) (by omega) h4
      rcases o with a | ⟨p1, z1, T1, v⟩
      · exact ⟨1, .inl a, k1, .inl ⟨a, h5, rfl⟩⟩
      · obtain ⟨a1, a2, a3, -⟩ := g_step_ok hS hp0 (p := p + 1) (by omega) (by omega) h4 h5
        obtain ⟨m, o, h6⟩ := ih p1 z1 (t_u T1 (last * 9 + 7) v) v (by omega) (by omega) a2 (by omega)
        exact ⟨m + 1, o, k1, .inr ⟨p1, z1, T1, v, h5, h6⟩⟩
    · exact ⟨0, _, k1, rfl⟩
theorem g_steps_ex (hS : t_S tk c) (hp0 : g_ok c prev) (hx : g_ex c prev) (p z : Int) (T : Int → Int) (hp : 0 ≤ p) (hc : p ≤ c) (hz : 1 ≤ z) : ∃ o, g_steps tk prev p z T o := by
  refine g_b_ex (g_step_ex hS hp0 hx p z T hp hc hz) (fun p1 z1 T1 v h => ?_)
  obtain ⟨a1, a2, a3, -⟩ := g_step_ok hS hp0 hp hc hz h
  by_cases k : z_M (tk p1) 59
  · obtain ⟨m, o, h2⟩ := g_qk_ex hS hp0 hx z1 (c - p1).toNat p1 (z1 + 1) (t_u (t_ad T1 z1 13 (T1 (v * 9 + 1))) (z1 * 9 + 5) v) v (by omega) (by omega) a2 (by omega)
    exact ⟨o, .inr ⟨k, m, h2⟩⟩
  · exact ⟨_, .inl ⟨k, rfl⟩⟩
theorem g_R_ex (hS : t_S tk c) : ∀ n : Nat, g_ex c (g_R tk n)
  | 0 => fun w p z T _ _ _ _ => ⟨_, rfl⟩
  | n + 1 => fun w p z T hw hp hc hz => by
    have ih := g_R_ex hS n
    have i2 := g_R_ok hS n
    have hc5 : w = 0 ∨ w = 1 ∨ w = 2 ∨ w = 3 ∨ w = 4 := by omega
    rcases hc5 with rfl | rfl | rfl | rfl | rfl
    · exact g_steps_ex hS i2 ih p z T hp hc hz
    · exact g_step_ex hS i2 ih p z T hp hc hz
    · exact g_sum_ex hS i2 ih p z T hp hc hz
    · exact g_prod_ex hS i2 ih p z T hp hc hz
    · exact g_part_ex hS i2 ih p z T hp hc hz
end

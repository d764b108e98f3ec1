/-! DEFINE: something always comes out -/
section
variable {tk : Int → t_t} {c : Int}
theorem h_ci_ex (hS : t_S tk c) : ∀ (n : Nat) (k p z : Int) (T : Int → Int) (last : Int), 4 ≤ k + n → 0 ≤ p → p ≤ c → ∃ m o, h_ci tk m k p z T last o
  | 0, k, p, z, T, last, h, _, _ => ⟨0, _, .inl (by omega), rfl⟩
  | n + 1, k, p, z, T, last, h, hp, hc => by
    by_cases h4 : 4 ≤ k
    · exact ⟨0, _, .inl h4, rfl⟩
    · by_cases hm : z_M (tk p) 44
      · have hlt := z_M_lt hS ⟨hp, hc⟩ hm
        by_cases h3 : (tk (p + 1)).1 = 3
        · have hlt1 : p + 1 < c := z_lt hS (by omega) (by rw [h3]; decide)
          obtain ⟨m, o, ho⟩ := h_ci_ex hS n (k + 1) (p + 2) (z + 1) (t_u (t_nm tk T z (p + 1)) (last * 9 + 7) z) z (by omega) (by omega) (by omega)
          exact ⟨m + 1, o, by omega, hm, .inr ⟨h3, ho⟩⟩
        · exact ⟨1, _, by omega, hm, .inl ⟨h3, rfl⟩⟩
      · exact ⟨0, _, .inr hm, rfl⟩
theorem h_pr_ex (hS : t_S tk c) {p : Int} (z : Int) (T : Int → Int) (k : Int) (hp : 0 ≤ p ∧ p ≤ c) : ∃ o, h_pr tk p z T k o := by
  by_cases h1 : z_M (tk p) 124
  · have hlt := z_M_lt hS hp h1
    rcases z_Ps_ex hS (p := p + 1) (by omega) with ⟨L, p2, h⟩ | ⟨a, h⟩
    · by_cases h2 : z_M (tk p2) 125
      · exact ⟨_, .inl ⟨h1, .inr ⟨L, p2, h, .inl ⟨h2, rfl⟩⟩⟩⟩
      · exact ⟨_, .inl ⟨h1, .inr ⟨L, p2, h, .inr ⟨h2, rfl⟩⟩⟩⟩
    · exact ⟨_, .inl ⟨h1, .inl ⟨a, h, rfl⟩⟩⟩
  · by_cases h2 : z_M (tk p) 125
    · exact ⟨_, .inr ⟨h1, .inl ⟨h2, rfl⟩⟩⟩
    · exact ⟨_, .inr ⟨h1, .inr ⟨h2, rfl⟩⟩⟩
theorem h_in_ex (hS : t_S tk c) {p : Int} (z : Int) (T : Int → Int) (hp : 0 ≤ p ∧ p < c) : ∃ o, h_in tk p z T o := by
  by_cases h3 : (tk (p + 1)).1 = 3
  · have hlt1 : p + 1 < c := z_lt hS (by omega) (by rw [h3]; decide)
    obtain ⟨m, o, ho⟩ := h_ci_ex hS 3 1 (p + 2) (z + 1) (t_nm tk T z (p + 1)) z (by omega) (by omega) (by omega)
    rcases o with a | ⟨p1, z1, T1, k⟩
    · exact ⟨_, .inr ⟨h3, m, .inl ⟨a, ho, rfl⟩⟩⟩
    · have ok := h_ci_ok hS m 1 (p + 2) _ _ _ _ _ _ _ (by omega) (by omega) ho
      obtain ⟨o, h⟩ := h_pr_ex hS (p := p1) z1 T1 k (by omega)
      exact ⟨o, .inr ⟨h3, m, .inr ⟨p1, z1, T1, k, ho, h⟩⟩⟩
  · exact ⟨_, .inl ⟨h3, rfl⟩⟩
theorem h_pa_ex (hS : t_S tk c) : ∀ (n : Nat) (k p z : Int) (T : Int → Int) (last : Int), 5 ≤ k + n → 0 ≤ p → p ≤ c → ∃ m o, h_pa tk m k p z T last o
  | 0, k, p, z, T, last, h, hp, hc => by
    by_cases h3 : (tk p).1 = 3
    · by_cases h58 : z_M (tk (p + 1)) 58
      · have hlt : p < c := z_lt hS ⟨hp, hc⟩ (by rw [h3]; decide)
        have hlt1 : p + 1 < c := z_M_lt hS (by omega) h58
        rcases z_Ty_ex hS (p := p + 2) (by omega) with ⟨x, p1, hx⟩ | ⟨a, hx⟩
        · exact ⟨1, _, .inr ⟨h3, .inr ⟨h58, .inr ⟨x, p1, hx, .inl ⟨.inl (by omega), rfl⟩⟩⟩⟩⟩
        · exact ⟨1, _, .inr ⟨h3, .inr ⟨h58, .inl ⟨a, hx, rfl⟩⟩⟩⟩
      · exact ⟨1, _, .inr ⟨h3, .inl ⟨h58, rfl⟩⟩⟩
    · exact ⟨1, _, .inl ⟨h3, rfl⟩⟩
  | n + 1, k, p, z, T, last, h, hp, hc => by
    by_cases h3 : (tk p).1 = 3
    · by_cases h58 : z_M (tk (p + 1)) 58
      · have hlt : p < c := z_lt hS ⟨hp, hc⟩ (by rw [h3]; decide)
        have hlt1 : p + 1 < c := z_M_lt hS (by omega) h58
        rcases z_Ty_ex hS (p := p + 2) (by omega) with ⟨x, p1, hx⟩ | ⟨a, hx⟩
        · have y0 := z_Ty_p hS (p := p + 2) (by omega) hx
          by_cases h6 : 5 ≤ k + 1 ∨ ¬ z_M (tk p1) 44
          · exact ⟨1, _, .inr ⟨h3, .inr ⟨h58, .inr ⟨x, p1, hx, .inl ⟨h6, rfl⟩⟩⟩⟩⟩
          · have h7 : z_M (tk p1) 44 := Classical.byContradiction fun q => h6 (.inr q)
            have hlt2 : p1 < c := z_M_lt hS (by omega) h7
            obtain ⟨m, o, ho⟩ := h_pa_ex hS n (k + 1) (p1 + 1) (z + 1 + z_tn x) (t_pm tk T z p x last) z (by omega) (by omega) (by omega)
            exact ⟨m + 1, o, .inr ⟨h3, .inr ⟨h58, .inr ⟨x, p1, hx, .inr ⟨by omega, h7, ho⟩⟩⟩⟩⟩
        · exact ⟨1, _, .inr ⟨h3, .inr ⟨h58, .inl ⟨a, hx, rfl⟩⟩⟩⟩
      · exact ⟨1, _, .inr ⟨h3, .inl ⟨h58, rfl⟩⟩⟩
    · exact ⟨1, _, .inl ⟨h3, rfl⟩⟩
theorem h_body_ex (hS : t_S tk c) {p z : Int} (T F : Int → Int) (hp : 0 ≤ p ∧ p ≤ c) (hz : 1 ≤ z) : ∃ o, h_body tk p z T F o := by
  by_cases h41 : z_M (tk p) 41
  · have l1 := z_M_lt hS hp h41
    by_cases h58 : z_M (tk (p + 1)) 58
    · have l2 := z_M_lt hS (p := p + 1) (by omega) h58
      rcases z_Ty_ex hS (p := p + 2) (by omega) with ⟨x, p3, hx⟩ | ⟨a, hx⟩
      · have y0 := z_Ty_p hS (p := p + 2) (by omega) hx
        by_cases h61 : z_M (tk p3) 61
        · have l3 := z_M_lt hS (p := p3) (by omega) h61
          obtain ⟨o, ho⟩ := g_R_ex hS 12 0 (p3 + 1) (z + z_tn x) (t_ty T z x) (by decide) (by omega) (by omega) (by omega)
          rcases o with a | ⟨p4, z4, T4, v⟩
          · exact ⟨_, .inl ⟨h41, .inl ⟨h58, .inr ⟨x, p3, hx, .inl ⟨h61, .inl ⟨a, ho, rfl⟩⟩⟩⟩⟩⟩
          · by_cases h0 : (tk p4).1 = 0
            · exact ⟨_, .inl ⟨h41, .inl ⟨h58, .inr ⟨x, p3, hx, .inl ⟨h61, .inr ⟨p4, z4, T4, v, ho, .inl ⟨h0, rfl⟩⟩⟩⟩⟩⟩⟩
            · exact ⟨_, .inl ⟨h41, .inl ⟨h58, .inr ⟨x, p3, hx, .inl ⟨h61, .inr ⟨p4, z4, T4, v, ho, .inr ⟨h0, rfl⟩⟩⟩⟩⟩⟩⟩
        · exact ⟨_, .inl ⟨h41, .inl ⟨h58, .inr ⟨x, p3, hx, .inr ⟨h61, rfl⟩⟩⟩⟩⟩
      · exact ⟨_, .inl ⟨h41, .inl ⟨h58, .inl ⟨a, hx, rfl⟩⟩⟩⟩
    · exact ⟨_, .inl ⟨h41, .inr ⟨h58, rfl⟩⟩⟩
  · exact ⟨_, .inr ⟨h41, rfl⟩⟩
theorem h_pars_ex (hS : t_S tk c) {p z : Int} (T F : Int → Int) (hp : 0 ≤ p ∧ p ≤ c) (hz : 1 ≤ z) : ∃ o, h_pars tk p z T F o := by
  by_cases h40 : z_M (tk p) 40
  · have l1 := z_M_lt hS hp h40
    by_cases h41 : z_M (tk (p + 1)) 41
    · obtain ⟨o, ho⟩ := h_body_ex hS (p := p + 1) T F (by omega) hz
      exact ⟨o, .inl ⟨h40, .inl ⟨h41, ho⟩⟩⟩
    · obtain ⟨m, o, ho⟩ := h_pa_ex hS 5 0 (p + 1) z T 0 (by omega) (by omega) (by omega)
      rcases o with a | ⟨p1, z1, T1, k⟩
      · exact ⟨_, .inl ⟨h40, .inr ⟨h41, m, .inl ⟨a, ho, rfl⟩⟩⟩⟩
      · have ok := h_pa_ok hS m 0 (p + 1) z T 0 p1 z1 T1 k (by omega) (by omega) ho
        obtain ⟨o, h⟩ := h_body_ex hS (p := p1) (z := z1) T1 (t_u (t_u F 7 z) 8 k) (by omega) (by omega)
        exact ⟨o, .inl ⟨h40, .inr ⟨h41, m, .inr ⟨p1, z1, T1, k, ho, h⟩⟩⟩⟩
  · exact ⟨_, .inr ⟨h40, rfl⟩⟩
theorem h_fun_ex (hS : t_S tk c) (T : Int → Int) : ∃ o, h_fun tk T o := by
  have hc0 := hS.1
  by_cases hw : z_W (tk 0) 6830
  · have l0 := z_W_lt hS (p := 0) (by omega) hw
    by_cases h3 : (tk 1).1 = 3
    · have l1 : (1 : Int) < c := z_lt hS (p := 1) (by omega) (by rw [h3]; decide)
      by_cases h123 : z_M (tk 2) 123
      · have l2 := z_M_lt hS (p := 2) (by omega) h123
        obtain ⟨o, ho⟩ := h_in_ex hS (p := 2) 1 T (by omega)
        rcases o with a | ⟨p1, z1, T1, k, v⟩
        · exact ⟨_, .inr ⟨hw, .inr ⟨h3, .inl ⟨h123, .inl ⟨a, ho, rfl⟩⟩⟩⟩⟩
        · have ok := h_in_ok hS (p := 2) (z := 1) (by omega) l2 (by omega) ho
          obtain ⟨o, h⟩ := h_pars_ex hS (p := p1) (z := z1) T1 (t_u (t_u (t_u (t_u (t_u (fun _ => 0) 3 (tk 1).2.1) 2 (tk 1).2.2.1) 4 1) 5 k) 6 v) (by omega) (by omega)
          exact ⟨o, .inr ⟨hw, .inr ⟨h3, .inl ⟨h123, .inr ⟨p1, z1, T1, k, v, ho, h⟩⟩⟩⟩⟩
      · obtain ⟨o, h⟩ := h_pars_ex hS (p := 2) (z := 1) T (t_u (t_u (fun _ => 0) 3 (tk 1).2.1) 2 (tk 1).2.2.1) (by omega) (by omega)
        exact ⟨o, .inr ⟨hw, .inr ⟨h3, .inr ⟨h123, h⟩⟩⟩⟩
    · exact ⟨_, .inr ⟨hw, .inl ⟨h3, rfl⟩⟩⟩
  · exact ⟨_, .inl ⟨hw, rfl⟩⟩
end

/-! READING: a function's tree -/
section
variable {tk : Int → t_t} {c : Int}
theorem h_ci_no : ∀ (m : Nat) (k p z : Int) (T : Int → Int) (last p1 z1 : Int) (T1 : Int → Int) (k1 : Int), 1 ≤ last → last < z → gno T 1 z → h_ci tk m k p z T last (.inr (p1, z1, T1, k1)) → gno T1 1 z1
  | 0, k, p, z, T, last, p1, z1, T1, k1, _, _, hn, ⟨_, h⟩ => by
    cases h
    exact hn
  | m + 1, k, p, z, T, last, p1, z1, T1, k1, hl, hz, hn, ⟨_, _, h⟩ => by
    rcases h with ⟨_, h⟩ | ⟨_, h⟩
    · cases h
    · refine h_ci_no m (k + 1) (p + 2) (z + 1) _ z p1 z1 T1 k1 (by omega) (by omega) (gno_app (gno_fr hn (fun n n0 n1 => ?_)) (gno_1 (k := 23) ?_ (by unfold nk; omega))) h
      · unfold t_nm
        rw [t_u_o (by omega), t_u_o (by omega), t_ad_lo (by omega)]
      · unfold t_nm
        rw [t_u_o (by omega), t_u_o (by omega), t_ad_0 rfl]
theorem h_in_no {p z p1 z1 k v : Int} {T T1 : Int → Int} (hz : 1 ≤ z) (hn : gno T 1 z) (h : h_in tk p z T (.inr (p1, z1, T1, k, v))) : gno T1 1 z1 := by
  rcases h with ⟨_, h⟩ | ⟨_, m, h⟩
  · cases h
  · rcases h with ⟨a, _, h⟩ | ⟨p2, z2, T2, k2, h1, h2⟩
    · cases h
    · have n1 := h_ci_no m 1 (p + 2) (z + 1) _ z p2 z2 T2 k2 (by omega) (by omega) (gno_app (gno_fr hn (fun n n0 n1 => by unfold t_nm; rw [t_u_o (by omega), t_ad_lo (by omega)])) (gno_1 (k := 23) (by unfold t_nm; rw [t_u_o (by omega), t_ad_0 rfl]) (by unfold nk; omega))) h1
      have z2' : 1 ≤ z2 := by
        clear h2 n1
        have : ∀ (m : Nat) (k p z : Int) (T : Int → Int) (last p1 z1 : Int) (T1 : Int → Int) (k1 : Int), h_ci tk m k p z T last (.inr (p1, z1, T1, k1)) → z ≤ z1 := by
          intro m
          induction m with
          | zero => intro k p z T last p1 z1 T1 k1 h; obtain ⟨_, h⟩ := h; cases h; exact Int.le_refl _
          | succ m ih =>
            intro k p z T last p1 z1 T1 k1 h
            obtain ⟨_, _, h⟩ := h
            rcases h with ⟨_, h⟩ | ⟨_, h⟩
            · cases h
            · have := ih _ _ _ _ _ _ _ _ _ h
              omega
        have := this _ _ _ _ _ _ _ _ _ _ h1
        omega
      rcases h2 with ⟨_, h2⟩ | ⟨_, h2⟩
      · rcases h2 with ⟨a, _, h⟩ | ⟨L, p3, _, h2⟩
        · cases h
        · rcases h2 with ⟨_, h⟩ | ⟨_, h⟩
          · cases h
            exact gno_app (gno_fr n1 (fun n n0 n2 => t_ps_lo _ _ _ _ _ (by omega) (.inl rfl))) (t_ps_no L T2 _ 0 z2' (by omega) (by omega))
          · cases h
      · rcases h2 with ⟨_, h⟩ | ⟨_, h⟩
        · cases h
          exact n1
        · cases h
theorem t_pm_no {T : Int → Int} {z p p1 last : Int} {x : z_T} (hz : 1 ≤ z) (hl : 0 ≤ last ∧ last < z) (hn : gno T 1 z) (hx : z_Ty tk (p + 2) x p1) : gno (t_pm tk T z p x last) 1 (z + 1 + z_tn x) := by
  obtain ⟨y1, y2, y3⟩ := z_Ty_s hx
  have b : gno (t_ty (t_nm tk T z p) (z + 1) x) 1 (z + 1 + z_tn x) := by
    refine gno_app (gno_app (gno_fr hn (fun n n0 n1 => ?_)) (gno_1 (k := 23) ?_ (by unfold nk; omega))) (t_ty_no (by omega) y1 y2 y3)
    · rw [t_ty_lo (by omega)]
      unfold t_nm
      rw [t_u_o (by omega), t_ad_lo (by omega)]
    · rw [t_ty_lo (by omega)]
      unfold t_nm
      rw [t_u_o (by omega), t_ad_0 rfl]
  unfold t_pm
  split
  · exact gno_fr b (fun n n0 n1 => t_u_o (by omega))
  · exact gno_fr b (fun n n0 n1 => by rw [t_u_o (by omega), t_u_o (by omega)])
theorem h_pa_no (hS : t_S tk c) : ∀ (m : Nat) (k p z : Int) (T : Int → Int) (last p1 z1 : Int) (T1 : Int → Int) (k1 : Int), 0 ≤ p → p ≤ c → 1 ≤ z → 0 ≤ last ∧ last < z → gno T 1 z → h_pa tk m k p z T last (.inr (p1, z1, T1, k1)) → gno T1 1 z1
  | 0, _, _, _, _, _, _, _, _, _, _, _, _, _, _, h => h.elim
  | m + 1, k, p, z, T, last, p1, z1, T1, k1, hp, hc, hz, hl, hn, h => by
    rcases h with ⟨_, h⟩ | ⟨h3, h⟩
    · cases h
    · have q1 := z_lt hS ⟨hp, hc⟩ (by rw [h3]; decide)
      rcases h with ⟨_, h⟩ | ⟨h4, h⟩
      · cases h
      · have q2 := z_M_lt hS (p := p + 1) (by omega) h4
        rcases h with ⟨a, _, h⟩ | ⟨x, p2, hx, h⟩
        · cases h
        · have q3 := z_Ty_p hS (p := p + 2) (by omega) hx
          have b := t_pm_no (tk := tk) (last := last) hz hl hn hx
          rcases h with ⟨_, h⟩ | ⟨_, h5, h⟩
          · cases h
            exact b
          · have q4 := z_M_lt hS (p := p2) (by omega) h5
            exact h_pa_no hS m (k + 1) (p2 + 1) _ _ z p1 z1 T1 k1 (by omega) (by omega) (by omega) (by omega) b h
theorem h_steps_X (hS : t_S tk c) (hpl : ∀ i, 0 ≤ (tk i).2.1) (hmo : ∀ i j, 0 ≤ i → i < j → j < c → (tk i).2.1 < (tk j).2.1) {p z p' z' : Int} {T F T' F' : Int → Int} (hp : 0 ≤ p) (hc : p ≤ c) (hz : 1 ≤ z) (hn : gno T 1 z) (h : h_steps tk p z T F (.inr (p', z', T', F'))) : fXt T' F' z' := by
  rcases h with ⟨a, _, h⟩ | ⟨p4, z4, T4, v, h1, h⟩
  · cases h
  · rcases h with ⟨_, h⟩ | ⟨_, h⟩
    · cases h
      obtain ⟨a1, a2, a3, a4, a5, a6, a7, a8, a9⟩ := g_R_ok hS 12 0 p z T _ (by omega) hp hc hz h1
      have hh := g_R_H hS 12 0 (by omega) p z T p' z' T' v hp hc hz h1
      obtain ⟨x1, x2, -⟩ := g_R_X hS 12 0 (by omega) p z T p' z' T' v hp hc hz h1
      have c480 := hS.2.1
      have g : gpl tk T' 1 z' p p' := gpl_app (p1 := p) (gpl_no (gno_fr hn (fun n n0 n1 => a7 _ (by omega)))) x1 (by omega)
      have e10 : t_u F 10 v 10 = v := t_u_s rfl
      refine ⟨p' - p, 252, ?_, by omega, by omega, fun n m n0 n1 m0 m1 hn hm he => ?_, fun n n0 n1 hn => ?_, fun L q => ?_⟩
      · rw [e10]
        exact ht_mono (by omega) hz (Int.le_refl _) (Int.le_refl _) (by omega) hh
      · have k1 : nk (T' (n * 9 + 0)) := by unfold c_ac at hn; unfold nk; omega
        have k2 : nk (T' (m * 9 + 0)) := by unfold c_ac at hm; unfold nk; omega
        rcases Int.lt_trichotomy n m with q | q | q
        · obtain ⟨i, j, b1, b2, b3, b4, b5⟩ := g.2 n m n0 q m1 k1 k2
          have := hmo i j (by omega) b1 (by omega)
          omega
        · exact q
        · obtain ⟨i, j, b1, b2, b3, b4, b5⟩ := g.2 m n m0 q n1 k2 k1
          have := hmo i j (by omega) b1 (by omega)
          omega
      · obtain ⟨i, b1, b2, b3⟩ := g.1 n n0 n1 (by unfold nk; omega)
        rw [b3]
        exact hpl i
      · rw [e10]
        have := x2 T' (fun _ _ _ _ _ => rfl) L q
        omega
    · cases h
theorem h_body_X (hS : t_S tk c) (hpl : ∀ i, 0 ≤ (tk i).2.1) (hmo : ∀ i j, 0 ≤ i → i < j → j < c → (tk i).2.1 < (tk j).2.1) {p z p' z' : Int} {T F T' F' : Int → Int} (hp : 0 ≤ p) (hc : p ≤ c) (hz : 1 ≤ z) (hn : gno T 1 z) (h : h_body tk p z T F (.inr (p', z', T', F'))) : fXt T' F' z' := by
  rcases h with ⟨h1, h⟩ | ⟨_, h⟩
  · have q1 := z_M_lt hS ⟨hp, hc⟩ h1
    rcases h with ⟨h2, h⟩ | ⟨_, h⟩
    · have q2 := z_M_lt hS (p := p + 1) (by omega) h2
      rcases h with ⟨a, _, h⟩ | ⟨x, p3, hx, h⟩
      · cases h
      · have q3 := z_Ty_p hS (p := p + 2) (by omega) hx
        obtain ⟨y1, y2, y3⟩ := z_Ty_s hx
        rcases h with ⟨h3, h⟩ | ⟨_, h⟩
        · have q4 := z_M_lt hS (p := p3) (by omega) h3
          exact h_steps_X hS hpl hmo (by omega) (by omega) (by omega) (gno_app (gno_fr hn (fun n n0 n1 => t_ty_lo (by omega))) (t_ty_no hz y1 y2 y3)) h
        · cases h
    · cases h
  · cases h
theorem h_pars_X (hS : t_S tk c) (hpl : ∀ i, 0 ≤ (tk i).2.1) (hmo : ∀ i j, 0 ≤ i → i < j → j < c → (tk i).2.1 < (tk j).2.1) {p z p' z' : Int} {T F T' F' : Int → Int} (hp : 0 ≤ p) (hc : p ≤ c) (hz : 1 ≤ z) (hn : gno T 1 z) (h : h_pars tk p z T F (.inr (p', z', T', F'))) : fXt T' F' z' := by
  rcases h with ⟨h1, h⟩ | ⟨_, h⟩
  · have q1 := z_M_lt hS ⟨hp, hc⟩ h1
    rcases h with ⟨h2, h⟩ | ⟨_, m, h⟩
    · exact h_body_X hS hpl hmo (by omega) (by omega) hz hn h
    · rcases h with ⟨a, _, h⟩ | ⟨p1, z1, T1, k, h3, h⟩
      · cases h
      · have o := h_pa_ok hS m 0 (p + 1) z T 0 p1 z1 T1 k (by omega) (by omega) h3
        exact h_body_X hS hpl hmo (by omega) (by omega) (by omega) (h_pa_no hS m 0 (p + 1) z T 0 p1 z1 T1 k (by omega) (by omega) hz (by omega) hn h3) h
  · cases h
theorem h_fun_X (hS : t_S tk c) (hpl : ∀ i, 0 ≤ (tk i).2.1) (hmo : ∀ i j, 0 ≤ i → i < j → j < c → (tk i).2.1 < (tk j).2.1) {p' z' : Int} {T T' F' : Int → Int} (h : h_fun tk T (.inr (p', z', T', F'))) : fXt T' F' z' := by
  have n1 : gno T 1 1 := fun n n0 n1 => by omega
  rcases h with ⟨_, h⟩ | ⟨h0, h⟩
  · cases h
  · have q0 := z_W_lt hS (p := 0) ⟨by omega, hS.1⟩ h0
    rcases h with ⟨_, h⟩ | ⟨h1, h⟩
    · cases h
    · have q1 := z_lt hS (p := 1) (by omega) (by rw [h1]; decide)
      rcases h with ⟨h2, h⟩ | ⟨_, h⟩
      · have q2 := z_M_lt hS (p := 2) (by omega) h2
        rcases h with ⟨a, _, h⟩ | ⟨p1, z1, T1, k, v, h3, h⟩
        · cases h
        · have o := h_in_ok hS (by omega) q2 (by omega) h3
          exact h_pars_X hS hpl hmo (by omega) (by omega) (by omega) (h_in_no (by omega) n1 h3) h
      · exact h_pars_X hS hpl hmo (by omega) (by omega) (by omega) n1 h
end
theorem t_L_mo {c : Int → Int} {n : Int} : ∀ {l : List t_t} {k : Int}, t_L c n k l → (∀ x ∈ l, k ≤ x.2.1) ∧ l.Pairwise (fun a b => a.2.1 < b.2.1)
  | [], _, _ => ⟨fun _ h => (by cases h), List.Pairwise.nil⟩
  | x :: l, k, ⟨b, _, _, _, k2, ht, h⟩ => by
    obtain ⟨i1, i2⟩ := t_L_mo h
    have hk : k + b < k2 := by
      rcases ht.2 with ⟨_, j, _, q1, q2, _⟩ | ⟨_, j, _, q1, q2, _⟩ | ⟨_, _, j, q1, q2, _⟩
      · omega
      · omega
      · rcases q1 with ⟨_, q, _⟩ | ⟨_, q, _⟩ <;> omega
    have hx : x.2.1 = k + b := ht.1
    refine ⟨fun y hy => ?_, List.Pairwise.cons (fun y hy => ?_) i2⟩
    · rcases List.mem_cons.mp hy with rfl | hy
      · omega
      · have := i1 y hy
        omega
    · have := i1 y hy
      omega
theorem t_st_m {c : Int → Int} {n : Int} {l : List t_t} (h : t_L c n 0 l) (i j : Int) (i0 : 0 ≤ i) (ij : i < j) (j1 : j < l.length) : (t_st l n i).2.1 < (t_st l n j).2.1 := by
  have e : ∀ i : Int, 0 ≤ i → (hi : i < l.length) → t_st l n i = l[i.toNat]'(by omega) := fun i a b => by
    unfold t_st
    have hi : i.toNat < l.length := by omega
    rw [List.getD_eq_getElem?_getD, List.getElem?_append_left hi, List.getElem?_eq_getElem hi]
    rfl
  rw [e i i0 (by omega), e j (by omega) j1]
  exact List.pairwise_iff_getElem.mp (t_L_mo h).2 _ _ _ _ (by omega)

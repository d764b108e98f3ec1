/-! DEFINE: what the class's tree holds of a function that was read -/
section
variable {tk : Int → t_t} {c p z p' z' : Int} {T T' F F' : Int → Int}
theorem h_body_C (hS : t_S tk c) (hp : 0 ≤ p ∧ p ≤ c) (hz : 1 ≤ z) (h : h_body tk p z T F (.inr (p', z', T', F'))) : (∀ j, 9 ≤ j → j < z * 9 → T' j = T j) ∧ z ≤ z' ∧ z' - z ≤ p' - p - 2 ∧ p' ≤ c ∧ (tk p').1 = 0 ∧ ∀ j, j ≠ 9 → j ≠ 10 → F' j = F j := by
  rcases h with ⟨h41, h⟩ | ⟨_, h⟩
  rotate_left
  · cases h
  have l1 := z_M_lt hS hp h41
  rcases h with ⟨h58, h⟩ | ⟨_, h⟩
  rotate_left
  · cases h
  have l2 := z_M_lt hS (p := p + 1) (by omega) h58
  rcases h with ⟨_, _, h⟩ | ⟨x, p3, hx, h⟩
  · cases h
  obtain ⟨y1, y2, y3, y4, y5, y6⟩ := z_Ty_p hS (p := p + 2) (by omega) hx
  rcases h with ⟨h61, h⟩ | ⟨_, h⟩
  rotate_left
  · cases h
  have l3 := z_M_lt hS (p := p3) (by omega) h61
  rcases h with ⟨_, _, h⟩ | ⟨p4, z4, T4, v, hs, h⟩
  · cases h
  obtain ⟨q1, q2, q3, q4, q5, q6, q7, q8, q9⟩ := g_R_ok hS 12 0 (p3 + 1) (z + z_tn x) _ _ (by decide) (by omega) (by omega) (by omega) hs
  rcases h with ⟨h0, h⟩ | ⟨_, h⟩
  rotate_left
  · cases h
  simp only [Sum.inr.injEq, Prod.mk.injEq] at h
  obtain ⟨rfl, rfl, rfl, rfl⟩ := h
  exact ⟨fun j a b => by rw [q7 j (by omega), t_ty_lo b], by omega, by omega, q2, h0, fun j a b => by rw [t_u_o b, t_u_o a]⟩
theorem h_pars_C (hS : t_S tk c) (hp : 0 ≤ p ∧ p ≤ c) (hz : 1 ≤ z) {l1 : List Int} {L : List z_p} (hC : ∀ T' : Int → Int, (∀ j, 9 ≤ j → j < z * 9 → T' j = T j) → ∀ hi, z ≤ hi → CH tk T' F hi l1 L []) (h : h_pars tk p z T F (.inr (p', z', T', F'))) : ∃ ps, CH tk T' F' z' l1 L ps ∧ nmK tk c (ps.map Prod.fst) ∧ (∀ j, 9 ≤ j → j < z * 9 → T' j = T j) ∧ z ≤ z' ∧ z' - z ≤ p' - p - 3 ∧ p' ≤ c ∧ (tk p').1 = 0 ∧ F' 2 = F 2 ∧ F' 3 = F 3 := by
  rcases h with ⟨h40, h⟩ | ⟨_, h⟩
  rotate_left
  · cases h
  have l0 := z_M_lt hS hp h40
  rcases h with ⟨h41, h⟩ | ⟨h41, m, h⟩
  · obtain ⟨a1, a2, a3, a4, a5, a6⟩ := h_body_C hS (p := p + 1) (by omega) hz h
    refine ⟨[], CH_F (hC T' a1 z' a2) (fun j a b => a6 j (by omega) (by omega)), (fun _ h => by cases h), a1, a2, by omega, a4, a5, a6 2 (by decide) (by decide), a6 3 (by decide) (by decide)⟩
  · rcases h with ⟨_, _, h⟩ | ⟨p1, z1, T1, k, h, hb⟩
    · cases h
    have ok := h_pa_ok hS m 0 (p + 1) z T 0 p1 z1 T1 k (by omega) (by omega) h
    rcases h_pa_d m _ _ _ _ _ _ h with ⟨a', h1, e⟩ | ⟨x, p2, l, p'', h1, h2, e⟩
    · cases e
    simp only [Sum.inr.injEq, Prod.mk.injEq] at e
    obtain ⟨rfl, rfl, rfl, rfl⟩ := e
    have q1 := h_P1_p hS (p := p + 1) (by omega) h1
    obtain ⟨k1, k2, k3, k4, k5⟩ := nmK_L hS (p := p2) (by omega) h2
    obtain ⟨⟨a1, a1'⟩, a2, a3, a4, -, a6⟩ := t_pm_f (T := T) (z := z) (p := p + 1) (last := 0) hS (by omega) hz (by omega) h1.2.2
    have yt := z_Ty_p hS (p := p + 1 + 2) (by omega) h1.2.2
    have eT : t_pl tk T z 0 ((p + 1, x) :: l) = t_pl tk (t_pm tk T z (p + 1) x 0) (z + 1 + z_tn x) z l := rfl
    have ez : z_pln ((p + 1, x) :: l) = 1 + z_tn x + z_pln l := rfl
    rw [eT, ez] at hb
    rw [ez] at ok
    generalize t_pm tk T z (p + 1) x 0 = A at a1 a1' a2 a3 a4 a6 hb
    obtain ⟨i1, i2, i3⟩ := t_pl_C hS l A (z + 1 + z_tn x) z (0 + 1) p2 p1 (by omega) (by omega) a3 (by omega) h2
    generalize t_pl tk A (z + 1 + z_tn x) z l = B at i1 i2 hb
    have tB : ∀ j, 9 ≤ j → j < z * 9 → B j = T j := fun j _ q => by rw [i2 j (by omega) (by omega)]; exact a6 j q (.inl rfl)
    have paB : paT tk B (z + (1 + z_tn x + z_pln l)) z ((p + 1, x) :: l) := by
      refine ⟨by omega, ⟨by rw [i2 _ (by omega) (by omega)]; exact a1, by rw [i2 _ (by omega) (by omega)]; exact a1'⟩, ?_, paT_fr (fun _ _ _ => rfl) (by omega) i1⟩
      rw [i2 _ (by omega) (by omega), a2]
      exact tyC_fr (fun j q1 q2 => i2 j (by omega) (by omega)) (by omega) (by omega) a4
    obtain ⟨b1, b2, b3, b4, b5, b6⟩ := h_body_C hS (p := p1) (by omega) (by omega) hb
    obtain ⟨⟨c1, c2⟩, c3, c4, c5⟩ := hC T' (fun j u v => by rw [b1 j u (by omega)]; exact tB j u v) z' (by omega)
    refine ⟨(p + 1, x) :: l, ⟨⟨by rw [b6 5 (by decide) (by decide), t_u_o (by decide), t_u_o (by decide)]; exact c1, by rw [b6 4 (by decide) (by decide), t_u_o (by decide), t_u_o (by decide)]; exact c2⟩, by rw [b6 6 (by decide) (by decide), t_u_o (by decide), t_u_o (by decide)]; exact c3, ?_, ?_⟩, ?_, fun j u v => by rw [b1 j u (by omega)]; exact tB j u v, by omega, by omega, b4, b5, by rw [b6 2 (by decide) (by decide), t_u_o (by decide), t_u_o (by decide)], by rw [b6 3 (by decide) (by decide), t_u_o (by decide), t_u_o (by decide)]⟩
    · rw [b6 8 (by decide) (by decide), t_u_s rfl, List.length_cons]; omega
    · rw [b6 7 (by decide) (by decide), t_u_o (by decide), t_u_s rfl]; exact paT_fr b1 b2 paB
    · intro i hi
      rw [List.map_cons] at hi
      rcases List.mem_cons.mp hi with rfl | hi
      · exact ⟨⟨by omega, by omega⟩, h1.1⟩
      · exact k1 i hi
theorem h_fun_C (hS : t_S tk c) (h : h_fun tk T (.inr (p', z', T', F'))) : ∃ l1 L ps, CH tk T' F' z' l1 L ps ∧ nmK tk c l1 ∧ nmK tk c (ps.map Prod.fst) ∧ (1 ≤ z' ∧ z' ≤ p' ∧ p' ≤ c ∧ 1 ≤ c) ∧ F' 2 = (tk 1).2.2.1 ∧ F' 3 = (tk 1).2.1 ∧ (tk 1).1 = 3 := by
  have hc0 := hS.1
  rcases h with ⟨_, h⟩ | ⟨hw, h⟩
  · cases h
  have l0 := z_W_lt hS (p := 0) (by omega) hw
  rcases h with ⟨_, h⟩ | ⟨h3, h⟩
  · cases h
  have l1' : (1 : Int) < c := z_lt hS (p := 1) (by omega) (by rw [h3]; decide)
  have f2 : t_u (t_u (fun _ => 0) 3 (tk 1).2.1) 2 (tk 1).2.2.1 2 = (tk 1).2.2.1 := t_u_s rfl
  have f3 : t_u (t_u (fun _ => 0) 3 (tk 1).2.1) 2 (tk 1).2.2.1 3 = (tk 1).2.1 := by rw [t_u_o (by decide), t_u_s rfl]
  have f0 : ∀ j, j ≠ 2 → j ≠ 3 → t_u (t_u (fun _ => 0) 3 (tk 1).2.1) 2 (tk 1).2.2.1 j = 0 := fun j a b => by rw [t_u_o a, t_u_o b]
  generalize t_u (t_u (fun _ => 0) 3 (tk 1).2.1) 2 (tk 1).2.2.1 = G at h f2 f3 f0
  rcases h with ⟨h123, h⟩ | ⟨h123, h⟩
  · rcases h with ⟨_, _, h⟩ | ⟨p1, z1, T1, k, v, hi, h⟩
    · cases h
    have l2' := z_M_lt hS (p := 2) (by omega) h123
    have ok := h_in_ok hS (p := 2) (z := 1) (by omega) l2' (by omega) hi
    have e3 : (2 : Int) + 1 = 3 := by omega
    have e4 : (2 : Int) + 2 = 4 := by omega
    unfold h_in at hi
    rw [e3, e4] at hi
    rcases hi with ⟨_, e⟩ | ⟨hn3, m, hi⟩
    · cases e
    have l3' : (3 : Int) < c := z_lt hS (p := 3) (by omega) (by rw [hn3]; decide)
    rcases hi with ⟨_, _, e⟩ | ⟨p2, z2, T2, k2, hi, hr⟩
    · cases e
    rcases h_ci_d m _ _ _ _ _ _ hi with ⟨_, _, _, e⟩ | ⟨l, p0, h4, e⟩
    · cases e
    simp only [Sum.inr.injEq, Prod.mk.injEq] at e
    obtain ⟨rfl, rfl, rfl, rfl⟩ := e
    obtain ⟨k1, k2, k3, k4⟩ := nmK_J hS (p := 4) (by omega) h4
    obtain ⟨a1, a2, a3, a4⟩ := t_nm_f (tk := tk) (T := T) (z := 1) (i := 3)
    generalize t_nm tk T 1 3 = A at a1 a2 a3 a4 hr
    obtain ⟨i1, i2⟩ := t_ns_C (tk := tk) l A (1 + 1) 1 (by omega) (by omega) a3
    generalize t_ns tk A (1 + 1) 1 l = B at i1 i2 hr
    have nB : nmT tk B (1 + 1 + l.length) 1 (3 :: l) := ⟨by omega, ⟨by rw [i2 _ (by omega) (by omega)]; exact a1, by rw [i2 _ (by omega) (by omega)]; exact a2⟩, i1⟩
    have nK : nmK tk c (3 :: l) := fun i hi => by
      rcases List.mem_cons.mp hi with rfl | hi
      · exact ⟨⟨by omega, by omega⟩, hn3⟩
      · exact k1 i hi
    have fin : ∀ L : List z_p, (∀ T' : Int → Int, (∀ j, 9 ≤ j → j < z1 * 9 → T' j = T1 j) → ∀ hi, z1 ≤ hi → CH tk T' (t_u (t_u (t_u G 4 1) 5 k) 6 v) hi (3 :: l) L []) → ∃ l1 L ps, CH tk T' F' z' l1 L ps ∧ nmK tk c l1 ∧ nmK tk c (ps.map Prod.fst) ∧ (1 ≤ z' ∧ z' ≤ p' ∧ p' ≤ c ∧ 1 ≤ c) ∧ F' 2 = (tk 1).2.2.1 ∧ F' 3 = (tk 1).2.1 ∧ (tk 1).1 = 3 := fun L hC => by
      obtain ⟨ps, b1, b2, b3, b4, b5, b6, b7, b8, b9⟩ := h_pars_C hS (p := p1) (by omega) (by omega) hC h
      exact ⟨3 :: l, L, ps, b1, nK, b2, by omega, by rw [b8, t_u_o (by decide), t_u_o (by decide), t_u_o (by decide)]; exact f2, by rw [b9, t_u_o (by decide), t_u_o (by decide), t_u_o (by decide)]; exact f3, h3⟩
    rcases hr with ⟨h124, hr⟩ | ⟨h124, hr⟩
    · have hl4 := z_M_lt hS (p := p2) (by omega) h124
      rcases hr with ⟨_, _, e⟩ | ⟨L, p3, h5, hr⟩
      · cases e
      have qs := z_Ps_p hS (p := p2 + 1) (by omega) h5
      obtain ⟨kp1, kp2⟩ := z_Ps_k hS (p := p2 + 1) (by omega) h5
      rcases hr with ⟨h6, e⟩ | ⟨_, e⟩
      · simp only [Sum.inr.injEq, Prod.mk.injEq] at e
        obtain ⟨rfl, rfl, rfl, rfl, rfl⟩ := e
        have n0 := z_psn_0 L
        obtain ⟨pc, -⟩ := t_ps_C L B (1 + 1 + l.length) 0 (by omega) (by omega) kp1 kp2
        have plo : ∀ j, j < (1 + 1 + (l.length : Int)) * 9 → t_ps B (1 + 1 + l.length) 0 L j = B j := fun j hj => t_ps_lo _ _ _ _ _ hj (.inl rfl)
        refine fin L (fun T' hT' hi hhi => ⟨⟨by rw [t_u_o (by decide), t_u_s rfl, List.length_cons]; omega, ?_⟩, ?_, ?_, ?_⟩)
        · rw [t_u_o (by decide), t_u_o (by decide), t_u_s rfl]
          exact nmT_fr (fun j u w => by rw [hT' j u (by omega)]; exact plo j w) (by omega) nB
        · rw [t_u_s rfl]
          exact psC_fr (fun j u w => hT' j (by omega) w) (by omega) hhi pc
        · rw [t_u_o (by decide), t_u_o (by decide), t_u_o (by decide)]; exact f0 8 (by decide) (by decide)
        · rw [t_u_o (by decide), t_u_o (by decide), t_u_o (by decide)]; exact f0 7 (by decide) (by decide)
      · cases e
    · rcases hr with ⟨h6, e⟩ | ⟨_, e⟩
      · simp only [Sum.inr.injEq, Prod.mk.injEq] at e
        obtain ⟨rfl, rfl, rfl, rfl, rfl⟩ := e
        refine fin [] (fun T' hT' hi hhi => ⟨⟨by rw [t_u_o (by decide), t_u_s rfl, List.length_cons]; omega, ?_⟩, ?_, ?_, ?_⟩)
        · rw [t_u_o (by decide), t_u_o (by decide), t_u_s rfl]
          exact nmT_fr hT' hhi nB
        · rw [t_u_s rfl]; rfl
        · rw [t_u_o (by decide), t_u_o (by decide), t_u_o (by decide)]; exact f0 8 (by decide) (by decide)
        · rw [t_u_o (by decide), t_u_o (by decide), t_u_o (by decide)]; exact f0 7 (by decide) (by decide)
      · cases e
  · obtain ⟨ps, b1, b2, b3, b4, b5, b6, b7, b8, b9⟩ := h_pars_C hS (p := 2) (by omega) (by omega) (l1 := []) (L := []) (fun T' _ hi _ => ⟨⟨f0 5 (by decide) (by decide), f0 4 (by decide) (by decide)⟩, f0 6 (by decide) (by decide), f0 8 (by decide) (by decide), f0 7 (by decide) (by decide)⟩) h
    exact ⟨[], [], ps, b1, fun _ h => (by cases h), b2, by omega, by rw [b8]; exact f2, by rw [b9]; exact f3, h3⟩
/-- the same words at the same places -/
def z_g (tk : Int → t_t) (i : Int) : Int × Int := ((tk i).2.1, (tk i).2.2.1)
theorem nmT_g {hi : Int} : ∀ {l l' : List Int} {n : Int}, nmT tk T hi n l → nmT tk T hi n l' → l.map (z_g tk) = l'.map (z_g tk)
  | [], [], _, _, _ => rfl
  | [], _ :: _, n, h, ⟨a, _⟩ => by have : n = 0 := h; omega
  | _ :: _, [], n, ⟨a, _⟩, h => by have : n = 0 := h; omega
  | i :: l, j :: l', n, ⟨_, b, q⟩, ⟨_, b', q'⟩ => by
    rw [List.map_cons, List.map_cons, nmT_g q q']
    unfold z_g
    rw [← b.1, ← b.2, ← b'.1, ← b'.2]
theorem z_tc_g {w : Int} : ∀ {l l' : List Int}, l.map (z_g tk) = l'.map (z_g tk) → z_tc tk l w = z_tc tk l' w
  | [], [], _ => rfl
  | [], _ :: _, h => by cases h
  | _ :: _, [], h => by cases h
  | i :: l, j :: l', h => by
    rw [List.map_cons, List.map_cons] at h
    injection h with h1 h2
    have e : (tk i).2.2.1 = (tk j).2.2.1 := congrArg Prod.snd h1
    show (decide ((tk i).2.2.1 = w) || z_tc tk l w) = (decide ((tk j).2.2.1 = w) || z_tc tk l' w)
    rw [e, z_tc_g h2]
theorem z_fs_g : ∀ {l l' s s' : List Int}, s.map (z_g tk) = s'.map (z_g tk) → l.map (z_g tk) = l'.map (z_g tk) → z_fs tk s l = z_fs tk s' l'
  | [], [], _, _, _, _ => rfl
  | [], _ :: _, _, _, _, h => by cases h
  | _ :: _, [], _, _, _, h => by cases h
  | i :: l, j :: l', s, s', hs, h => by
    rw [List.map_cons, List.map_cons] at h
    injection h with h1 h2
    have e1 : (tk i).2.1 = (tk j).2.1 := congrArg (fun x : Int × Int => x.1) h1
    have e2 : (tk i).2.2.1 = (tk j).2.2.1 := congrArg (fun x : Int × Int => x.2) h1
    show (if z_tc tk s (tk i).2.2.1 = true then (tk i).2.1 else z_fs tk (s ++ [i]) l) = if z_tc tk s' (tk j).2.2.1 = true then (tk j).2.1 else z_fs tk (s' ++ [j]) l'
    rw [z_tc_g hs, e1, e2, z_fs_g (s := s ++ [i]) (s' := s' ++ [j]) (by rw [List.map_append, List.map_append, hs, List.map_cons, List.map_cons, h1]) h2]
end

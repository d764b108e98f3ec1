/-! READING: the pass over what is read -/
section
variable {tk : Int → t_t} {c : Int} {prev : g_T}
theorem z_Ty_s {p p' : Int} {x : z_T} (h : z_Ty tk p x p') : (x.1 = 0 ∨ x.1 = 1 ∨ x.1 = 2 ∨ x.1 = 3) ∧ (x.1 ≠ 2 → x.2.2.2.2 = []) ∧ (x.1 = 0 ∨ x.1 = 2 → x.2.2.1.2 = []) := by
  rcases h.2 with ⟨_, _, _, _, e⟩ | ⟨L, p1, k, _, _, _, _, e⟩ | ⟨L, p1, _, _, _, _, _, _, _, e⟩
  · rw [e]; exact ⟨.inl rfl, fun _ => rfl, fun _ => rfl⟩
  · have k1 : x.1 = 1 ∨ x.1 = 3 := by rcases k with k | k; exact .inl k.2; exact .inr k.2
    rw [e]
    exact ⟨by dsimp only; omega, fun _ => rfl, fun q => by dsimp only at q; omega⟩
  · rw [e]; exact ⟨.inr (.inr (.inl rfl)), fun q => absurd rfl q, fun _ => rfl⟩
theorem g_ci_no (hS : t_S tk c) : ∀ (m : Nat) (k p z : Int) (T : Int → Int) (last p' z' : Int) (T' : Int → Int) (v : Int), 0 ≤ p → p ≤ c → 1 ≤ last → last < z → g_ci tk m k p z T last (.inr (p', z', T', v)) → gno T' z z'
  | 0, k, p, z, T, last, p', z', T', v, hp, hc, hl, hl2, ⟨_, h⟩ => by
    cases h
    exact fun n n0 n1 => by omega
  | m + 1, k, p, z, T, last, p', z', T', v, hp, hc, hl, hl2, ⟨_, h2, h3⟩ => by
    have q1 := z_M_lt hS ⟨hp, hc⟩ h2
    rcases h3 with ⟨a, -, h⟩ | ⟨L, p1, h3, h4⟩
    · cases h
    · have q3 := z_I_p hS (p := p + 1) (by omega) h3
      obtain ⟨i1, i2, i3, i4, i5⟩ := g_ci_ok hS m (k + 1) p1 _ _ z _ (by omega) (by omega) (by omega) (by omega) h4
      have r := g_ci_no hS m (k + 1) p1 _ _ z p' z' T' v (by omega) (by omega) (by omega) (by omega) h4
      refine gno_app (gno_app (gno_fr (gno_1 (T := t_ad T z 17 (tk (p + 1)).2.1) (t_ad_0 rfl) (by unfold nk; omega)) (fun n n0 n1 => ?_)) (gno_fr (t_ix_no L (t_ad T z 17 (tk (p + 1)).2.1) (z + 1) 0 (by omega) (by omega)) (fun n n0 n1 => ?_))) r
      · rw [i5 _ (by omega) (by omega), t_u_o (by omega), t_u_o (by omega), t_ix_lo _ _ _ _ _ (by omega) (.inl rfl)]
      · rw [i5 _ (by omega) (by omega), t_u_o (by omega), t_u_o (by omega)]
theorem g_ca_X (hS : t_S tk c) (hp0 : g_ok c prev) (hX : ∀ w, w ≤ 4 → gX tk c (prev w)) : ∀ (m : Nat) (k p z : Int) (T : Int → Int) (last p' z' : Int) (T' : Int → Int) (v : Int), 0 ≤ p → p ≤ c → 1 ≤ last → last < z → T (last * 9 + 7) = 0 → g_ca tk prev m k p z T last (.inr (p', z', T', v)) → gpl tk T' z z' p p' ∧ ∀ U : Int → Int, (∀ j, z * 9 ≤ j → j < z' * 9 → U j = T' j) → U (last * 9 + 7) = T' (last * 9 + 7) → ∀ L mm q, ((c_as U (c_em U L) mm (t_nx U last) q).length : Int) ≤ p' - p
  | 0, k, p, z, T, last, p', z', T', v, hp, hc, hl, hl2, h7, ⟨_, h⟩ => by
    cases h
    refine ⟨⟨fun n n0 n1 => by omega, fun n m n0 nm m1 => by omega⟩, fun U hU hl' L mm q => ?_⟩
    have e : t_nx U last = 0 := t_nx_z (by rw [hl']; exact h7) hl
    rw [e]
    have := gl_as0 (U := U) (f := 0) (q := q) (m := mm) (em := c_em U L) (Int.le_refl _)
    omega
  | m + 1, k, p, z, T, last, p', z', T', v, hp, hc, hl, hl2, h7, ⟨h1, h2, h3⟩ => by
    have q1 := z_M_lt hS ⟨hp, hc⟩ h2
    rcases h3 with ⟨a, -, h⟩ | ⟨p1, z1, T1, u, h3, h4⟩
    · cases h
    · obtain ⟨a1, a2, a3, a4, a5, a6, a7, a8, a9⟩ := hp0 0 (p + 1) z T _ (by omega) (by omega) (by omega) (by omega) h3
      obtain ⟨x1, x2, -⟩ := hX 0 (by omega) (p + 1) z T p1 z1 T1 u (by omega) (by omega) (by omega) h3
      obtain ⟨i1, i2, i3, i4, i5⟩ := g_ca_ok hS hp0 m (k + 1) p1 z1 _ u _ (by omega) a2 (by omega) a6 h4
      obtain ⟨j1, j2⟩ := g_ca_X hS hp0 hX m (k + 1) p1 z1 _ u p' z' T' v (by omega) a2 (by omega) a6 (by rw [t_u_o (by omega)]; exact a8) h4
      refine ⟨gpl_app (gpl_fr (gpl_mono x1 (by omega) (Int.le_refl _)) (fun n n0 n1 => ⟨by rw [i5 _ (by omega) (by omega), t_u_o (by omega)], by rw [i5 _ (by omega) (by omega), t_u_o (by omega)]⟩)) j1 (by omega), fun U hU hl' L mm q => ?_⟩
      have e : t_nx U last = u := t_nx_is (by rw [hl', i5 _ (by omega) (by omega), t_u_s rfl]) (by omega)
      rw [e]
      have g := gl_as (U := U) (f := u) (L := L) (m := mm) (q := q) (n1 := p1 - (p + 1)) (n2 := p' - p1) (x2 U (fun j b1 b2 b3 b4 => by rw [hU j (by omega) (by omega), i5 j b2 b3, t_u_o (by omega)])) (fun L mm q => j2 U (fun j b1 b2 => hU j (by omega) b2) (by rw [hU _ (by omega) (by omega)]) L mm q)
      omega
theorem g_c2_X (hS : t_S tk c) (hp0 : g_ok c prev) (hX : ∀ w, w ≤ 4 → gX tk c (prev w)) {n p z p' z' v : Int} {T T' : Int → Int} (hp : 0 ≤ p) (hc : p ≤ c) (hn : 1 ≤ n) (hnz : n < z) (h5 : T (n * 9 + 5) = 0) (h : g_c2 tk prev n p z T (.inr (p', z', T', v))) : gpl tk T' z z' p p' ∧ ∀ U : Int → Int, (∀ j, z * 9 ≤ j → j < z' * 9 → U j = T' j) → ∀ L mm q, ((c_as U (c_em U L) mm (T' (n * 9 + 5)) q).length : Int) ≤ p' - p - 2 := by
  rcases h with ⟨h1, h⟩ | ⟨-, h⟩
  · have q1 := z_M_lt hS ⟨hp, hc⟩ h1
    rcases h with ⟨h2, h⟩ | ⟨h2, h⟩
    · cases h
      refine ⟨⟨fun n n0 n1 => by omega, fun n m n0 nm m1 => by omega⟩, fun U hU L mm q => ?_⟩
      rw [h5]
      have := gl_as0 (U := U) (f := 0) (q := q) (m := mm) (em := c_em U L) (Int.le_refl _)
      omega
    · rcases h with ⟨a, -, h⟩ | ⟨p1, z1, T1, u, h3, m, h4⟩
      · cases h
      · obtain ⟨a1, a2, a3, a4, a5, a6, a7, a8, a9⟩ := hp0 0 (p + 1) z T _ (by omega) (by omega) (by omega) (by omega) h3
        obtain ⟨x1, x2, -⟩ := hX 0 (by omega) (p + 1) z T p1 z1 T1 u (by omega) (by omega) (by omega) h3
        rcases h4 with ⟨a, -, h⟩ | ⟨p2, z2, T2, v2, h4, h5'⟩
        · cases h
        · obtain ⟨i1, i2, i3, i4, i5⟩ := g_ca_ok hS hp0 m 1 p1 z1 _ u _ (by omega) a2 (by omega) a6 h4
          obtain ⟨j1, j2⟩ := g_ca_X hS hp0 hX m 1 p1 z1 _ u p2 z2 T2 v2 (by omega) a2 (by omega) a6 (by rw [t_u_o (by omega)]; exact a8) h4
          rcases h5' with ⟨h5', h⟩ | ⟨-, h⟩
          · cases h
            refine ⟨gpl_mono (gpl_app (gpl_fr (gpl_mono x1 (by omega) (Int.le_refl _)) (fun n n0 n1 => ⟨by rw [i5 _ (by omega) (by omega), t_u_o (by omega)], by rw [i5 _ (by omega) (by omega), t_u_o (by omega)]⟩)) j1 (by omega)) (Int.le_refl p) (by omega), fun U hU L mm q => ?_⟩
            have e : T' (n * 9 + 5) = u := by rw [i5 _ (by omega) (by omega), t_u_s rfl]
            rw [e]
            have g := gl_as (U := U) (f := u) (L := L) (m := mm) (q := q) (n1 := p1 - (p + 1)) (n2 := p2 - p1) (x2 U (fun j b1 b2 b3 b4 => by rw [hU j (by omega) (by omega), i5 j b2 b3, t_u_o (by omega)])) (fun L mm q => j2 U (fun j b1 b2 => hU j (by omega) b2) (by rw [hU _ (by omega) (by omega)]) L mm q)
            omega
          · cases h
  · cases h
theorem g_part_X (hS : t_S tk c) (hp0 : g_ok c prev) (hX : ∀ w, w ≤ 4 → gX tk c (prev w)) : gX tk c (g_part tk prev) := by
  intro p z T p' z' T' v hp hc hz h
  rcases h with ⟨h1, h⟩ | ⟨h1, h⟩ | ⟨h1, h⟩ | ⟨h1, h⟩ | ⟨h1, h⟩ | ⟨h1, h⟩ | ⟨-, -, -, -, -, -, h⟩
  · cases h
    have e0 : t_u (t_ad T z 1 (tk p).2.1) (z * 9 + 4) (tk p).2.2.1 (z * 9 + 0) = 1 := by rw [t_u_o (by omega), t_ad_0 rfl]
    exact ⟨gpl_no (gno_1 e0 (by unfold nk; omega)), fun U hU L q => by
      have := gl_1 (U := U) (L := L) (v := z) (q := q) (.inl (by rw [hU _ (by omega) (by omega) (by omega) (by omega)]; exact e0))
      omega, fun q => by rw [e0] at q; omega⟩
  · have q1 := z_M_lt hS ⟨hp, hc⟩ h1
    rcases h with ⟨a, -, h⟩ | ⟨p1, z1, T1, u, h2, h3⟩
    · cases h
    · obtain ⟨a1, a2, a3, a4, a5, a6, a7, a8, a9⟩ := hp0 0 (p + 1) (z + 1) _ _ (by omega) (by omega) (by omega) (by omega) h2
      obtain ⟨x1, x2, -⟩ := hX 0 (by omega) (p + 1) (z + 1) _ p1 z1 T1 u (by omega) (by omega) (by omega) h2
      rcases h3 with ⟨h3, h4⟩ | ⟨h3, h4⟩
      · have q2 := z_M_lt hS (p := p1) (by omega) h3
        rcases h4 with ⟨a, -, h⟩ | ⟨x, p2, h4, h5⟩
        · cases h
        · have q3 := z_Ty_p hS (p := p1 + 1) (by omega) h4
          obtain ⟨y1, y2, y3⟩ := z_Ty_s h4
          rcases h5 with ⟨h5, h⟩ | ⟨-, h⟩
          · cases h
            have fr : ∀ j, (z + 1) * 9 ≤ j → j < z1 * 9 → t_u (t_ty (t_u (t_u T1 (z * 9 + 5) u) (z * 9 + 0) 10) z1 x) (z * 9 + 6) z1 j = T1 j := fun j b1 b2 => by rw [t_u_o (by omega), t_ty_lo (by omega), t_u_o (by omega), t_u_o (by omega)]
            have e0 : t_u (t_ty (t_u (t_u T1 (z * 9 + 5) u) (z * 9 + 0) 10) z1 x) (z * 9 + 6) z1 (z * 9 + 0) = 10 := by rw [t_u_o (by omega), t_ty_lo (by omega), t_u_s rfl]
            have e5 : t_u (t_ty (t_u (t_u T1 (z * 9 + 5) u) (z * 9 + 0) 10) z1 x) (z * 9 + 6) z1 (z * 9 + 5) = u := by rw [t_u_o (by omega), t_ty_lo (by omega), t_u_o (by omega), t_u_s rfl]
            refine ⟨gpl_app (p1 := p) (gpl_no (gno_1 e0 (by unfold nk; omega))) (gpl_app (p1 := p1) (gpl_fr (gpl_mono x1 (by omega) (Int.le_refl _)) (fun n n0 n1 => ⟨fr _ (by omega) (by omega), fr _ (by omega) (by omega)⟩)) (gpl_no (gno_fr (t_ty_no (T := t_u (t_u T1 (z * 9 + 5) u) (z * 9 + 0) 10) (by omega) y1 y2 y3) (fun n n0 n1 => t_u_o (by omega)))) (by omega)) (by omega), fun U hU L q => ?_, fun q => by rw [e0] at q; omega⟩
            have := gl_9 (U := U) (L := L) (v := z) (q := q) (f := u) (n := p1 - (p + 1)) (.inr (by rw [hU _ (by omega) (by omega) (by omega) (by omega)]; exact e0)) (by rw [hU _ (by omega) (by omega) (by omega) (by omega)]; exact e5) (x2 U (fun j b1 b2 b3 b4 => by rw [hU j (by omega) (by omega) (by omega) (by omega)]; exact fr j b1 b2))
            omega
          · cases h
      · rcases h4 with ⟨h4, h⟩ | ⟨-, h⟩
        · cases h
          have e0 : t_u T1 (z * 9 + 5) u (z * 9 + 0) = 9 := by rw [t_u_o (by omega), a7 _ (by omega), t_ad_0 rfl]
          refine ⟨gpl_app (p1 := p) (gpl_no (gno_1 e0 (by unfold nk; omega))) (gpl_mono (gpl_fr x1 (fun n n0 n1 => ⟨t_u_o (by omega), t_u_o (by omega)⟩)) (by omega) (by omega)) (by omega), fun U hU L q => ?_, fun q => by rw [e0] at q; omega⟩
          have := gl_9 (U := U) (L := L) (v := z) (q := q) (f := u) (n := p1 - (p + 1)) (.inl (by rw [hU _ (by omega) (by omega) (by omega) (by omega)]; exact e0)) (by rw [hU _ (by omega) (by omega) (by omega) (by omega)]; exact t_u_s rfl) (x2 U (fun j b1 b2 b3 b4 => by rw [hU j (by omega) (by omega) (by omega) (by omega)]; exact t_u_o (by omega)))
          omega
        · cases h
  · rcases h with ⟨h2, h⟩ | ⟨-, h⟩
    · cases h
      have e0 : t_u (t_u (t_ad T z 6 (tk p).2.1) (z * 9 + 2) (tk (p + 1)).2.1) (z * 9 + 3) (tk (p + 1)).2.2.1 (z * 9 + 0) = 6 := by rw [t_u_o (by omega), t_u_o (by omega), t_ad_0 rfl]
      exact ⟨gpl_no (gno_1 e0 (by unfold nk; omega)), fun U hU L q => by
        have := gl_6 (U := U) (L := L) (v := z) (q := q) (by rw [hU _ (by omega) (by omega) (by omega) (by omega)]; exact e0)
        omega, fun q => by rw [e0] at q; omega⟩
    · cases h
  · have q1 := z_W_lt hS ⟨hp, hc⟩ h1
    rcases h with ⟨a, -, h⟩ | ⟨p1, z1, T1, u, h2, h⟩
    · cases h
    · obtain ⟨a1, a2, a3, a4, a5, a6, a7, a8, a9⟩ := hp0 4 (p + 1) (z + 1) _ _ (by omega) (by omega) (by omega) (by omega) h2
      obtain ⟨x1, x2, -⟩ := hX 4 (by omega) (p + 1) (z + 1) _ p1 z1 T1 u (by omega) (by omega) (by omega) h2
      cases h
      have e0 : t_u T1 (z * 9 + 5) u (z * 9 + 0) = 7 := by rw [t_u_o (by omega), a7 _ (by omega), t_ad_0 rfl]
      refine ⟨gpl_app (p1 := p) (gpl_no (gno_1 e0 (by unfold nk; omega))) (gpl_mono (gpl_fr x1 (fun n n0 n1 => ⟨t_u_o (by omega), t_u_o (by omega)⟩)) (by omega) (by omega)) (by omega), fun U hU L q => ?_, fun q => by rw [e0] at q; omega⟩
      have := gl_7 (U := U) (L := L) (v := z) (q := q) (f := u) (n := p' - (p + 1)) (.inl (by rw [hU _ (by omega) (by omega) (by omega) (by omega)]; exact e0)) (by rw [hU _ (by omega) (by omega) (by omega) (by omega)]; exact t_u_s rfl) (x2 U (fun j b1 b2 b3 b4 => by rw [hU j (by omega) (by omega) (by omega) (by omega)]; exact t_u_o (by omega)))
      omega
  · have q1 := z_W_lt hS ⟨hp, hc⟩ h1
    rcases h with ⟨a, -, h⟩ | ⟨p1, z1, T1, u, h2, h⟩
    · cases h
    · obtain ⟨a1, a2, a3, a4, a5, a6, a7, a8, a9⟩ := hp0 4 (p + 1) (z + 1) _ _ (by omega) (by omega) (by omega) (by omega) h2
      obtain ⟨x1, x2, -⟩ := hX 4 (by omega) (p + 1) (z + 1) _ p1 z1 T1 u (by omega) (by omega) (by omega) h2
      cases h
      have e0 : t_u T1 (z * 9 + 5) u (z * 9 + 0) = 8 := by rw [t_u_o (by omega), a7 _ (by omega), t_ad_0 rfl]
      refine ⟨gpl_app (p1 := p) (gpl_no (gno_1 e0 (by unfold nk; omega))) (gpl_mono (gpl_fr x1 (fun n n0 n1 => ⟨t_u_o (by omega), t_u_o (by omega)⟩)) (by omega) (by omega)) (by omega), fun U hU L q => ?_, fun q => by rw [e0] at q; omega⟩
      have := gl_7 (U := U) (L := L) (v := z) (q := q) (f := u) (n := p' - (p + 1)) (.inr (by rw [hU _ (by omega) (by omega) (by omega) (by omega)]; exact e0)) (by rw [hU _ (by omega) (by omega) (by omega) (by omega)]; exact t_u_s rfl) (x2 U (fun j b1 b2 b3 b4 => by rw [hU j (by omega) (by omega) (by omega) (by omega)]; exact t_u_o (by omega)))
      omega
  · have q1 := z_lt hS ⟨hp, hc⟩ (by rw [h1]; decide)
    rcases h with ⟨h2, h⟩ | ⟨h2, h⟩ | ⟨-, -, -, h⟩
    · have q2 := z_M_lt hS (p := p + 1) (by omega) h2
      rcases h with ⟨a, -, h⟩ | ⟨p1, z1, T1, u, h3, h4⟩
      · cases h
      · obtain ⟨a1, a2, a3, a4, a5, a6, a7, a8, a9⟩ := hp0 2 (p + 2) (z + 1) _ _ (by omega) (by omega) (by omega) (by omega) h3
        obtain ⟨x1, x2, -⟩ := hX 2 (by omega) (p + 2) (z + 1) _ p1 z1 T1 u (by omega) (by omega) (by omega) h3
        rcases h4 with ⟨h4, h⟩ | ⟨-, h⟩
        · cases h
          have e0 : t_u T1 (z * 9 + 5) u (z * 9 + 0) = 3 := by rw [t_u_o (by omega), a7 _ (by omega), t_u_s rfl]
          have e1 : t_u T1 (z * 9 + 5) u (z * 9 + 1) = (tk p).2.1 := by rw [t_u_o (by omega), a7 _ (by omega), t_u_o (by omega), t_u_o (by omega), t_u_o (by omega), t_ad_1 rfl]
          have e5 : t_u T1 (z * 9 + 5) u (z * 9 + 5) = u := t_u_s rfl
          refine ⟨gpl_app (p1 := p + 1) (gpl_1 e1 (by omega)) (gpl_mono (gpl_fr x1 (fun n n0 n1 => ⟨t_u_o (by omega), t_u_o (by omega)⟩)) (by omega) (by omega)) (by omega), fun U hU L q => ?_, fun _ U hU L q => ?_⟩
          · have := gl_3 (U := U) (L := L) (v := z) (q := q) (f := u) (n := p1 - (p + 2)) (by rw [hU _ (by omega) (by omega) (by omega) (by omega)]; exact e0) (by rw [hU _ (by omega) (by omega) (by omega) (by omega)]; exact e5) (x2 U (fun j b1 b2 b3 b4 => by rw [hU j (by omega) (by omega) (by omega) (by omega)]; exact t_u_o (by omega)))
            omega
          · rw [e5] at hU ⊢
            have := x2 U (fun j b1 b2 b3 b4 => by rw [hU j (by omega) (by omega) (by omega) (by omega) (by omega) (by omega)]; exact t_u_o (by omega)) L q
            omega
        · cases h
    · have q2 : p + 1 < c := by rcases h2 with h2 | h2; exact z_M_lt hS (by omega) h2; exact z_M_lt hS (by omega) h2
      rcases h with ⟨h3, h4⟩ | ⟨h3, h4⟩
      · rcases h4 with ⟨a, -, h⟩ | ⟨K, p1, m, h4, h5⟩
        · cases h
        · have q3 := z_I_p hS (p := p + 1 + 1) (by omega) h4
          rcases h5 with ⟨a, -, h⟩ | ⟨p2, z2, T2, v2, h5, h6⟩
          · cases h
          · obtain ⟨i1, i2, i3, i4, i5⟩ := g_ci_ok hS m 1 p1 _ _ (z + 1) _ (by omega) (by omega) (by omega) (by omega) h5
            have no := g_ci_no hS m 1 p1 _ _ (z + 1) p2 z2 T2 v2 (by omega) (by omega) (by omega) (by omega) h5
            rcases h6 with ⟨h6, h7⟩ | ⟨-, h⟩
            · have q4 := z_M_lt hS (p := p2) (by omega) h6
              obtain ⟨k1, k2, k3, k4, k5, k6⟩ := g_c2_ok hS hp0 (n := z) (p := p2 + 1) (z := z2) (by omega) (by omega) hz (by omega) h7
              have e2 : ∀ j, z * 9 ≤ j → j < z * 9 + 9 → j ≠ z * 9 + 6 → T2 j = t_u (t_u (t_u (t_ad T z 2 (tk p).2.1) (z * 9 + 2) (tk p).2.1) (z * 9 + 3) (tk p).2.2.1) (z * 9 + 0) 5 j := fun j b1 b2 b3 => by
                rw [i5 j (by omega) (by omega), t_u_o (by omega), t_u_o (by omega), t_ix_lo _ _ _ _ _ (by omega) (.inl rfl), t_ad_lo (by omega)]
              obtain ⟨j1, j2⟩ := g_c2_X hS hp0 hX (n := z) (p := p2 + 1) (z := z2) (by omega) (by omega) hz (by omega) (by rw [e2 _ (by omega) (by omega) (by omega), t_u_o (by omega), t_u_o (by omega), t_u_o (by omega), t_ad_z (by omega)]) h7
              have k5' := k5.symm
              subst k5'
              have e0 : T' (z * 9 + 0) = 5 := by rw [k6 _ (by omega) (by omega), e2 _ (by omega) (by omega) (by omega), t_u_s rfl]
              have e1 : T' (z * 9 + 1) = (tk p).2.1 := by rw [k6 _ (by omega) (by omega), e2 _ (by omega) (by omega) (by omega), t_u_o (by omega), t_u_o (by omega), t_u_o (by omega), t_ad_1 rfl]
              have f1 : gno T' (z + 1) z2 := by
                refine gno_app (b := z + 1 + 1 + K.length) (gno_app (b := z + 1 + 1) (gno_1 (k := 17) ?_ (by unfold nk; omega)) (gno_fr (t_ix_no K (t_ad (t_u (t_u (t_u (t_ad T z 2 (tk p).2.1) (z * 9 + 2) (tk p).2.1) (z * 9 + 3) (tk p).2.2.1) (z * 9 + 0) 5) (z + 1) 17 (tk (p + 1 + 1)).2.1) (z + 1 + 1) 0 (by omega) (by omega)) (fun n n0 n1 => ?_))) (gno_fr no (fun n n0 n1 => k6 _ (by omega) (by omega)))
                · rw [k6 _ (by omega) (by omega), i5 _ (by omega) (by omega), t_u_o (by omega), t_u_o (by omega), t_ix_lo _ _ _ _ _ (by omega) (.inl rfl), t_ad_0 rfl]
                · rw [k6 _ (by omega) (by omega), i5 _ (by omega) (by omega), t_u_o (by omega), t_u_o (by omega)]
              refine ⟨gpl_app (p1 := p + 1) (gpl_1 e1 (by omega)) (gpl_app (p1 := p2 + 1) (gpl_no f1) j1 (by omega)) (by omega), fun U hU L q => ?_, fun q => by rw [e0] at q; omega⟩
              have := gl_5 (U := U) (L := L) (v := z) (q := q) (f := T' (z * 9 + 5)) (n := p' - (p2 + 1) - 2) (by rw [hU _ (by omega) (by omega) (by omega) (by omega)]; exact e0) (hU _ (by omega) (by omega) (by omega) (by omega)) (j2 U (fun j b1 b2 => hU j (by omega) b2 (by omega) (by omega)))
              omega
            · cases h
      · obtain ⟨k1, k2, k3, k4, k5, k6⟩ := g_c2_ok hS hp0 (n := z) (p := p + 1) (z := z + 1) (by omega) (by omega) hz (by omega) h4
        obtain ⟨j1, j2⟩ := g_c2_X hS hp0 hX (n := z) (p := p + 1) (z := z + 1) (by omega) (by omega) hz (by omega) (by rw [t_u_o (by omega), t_u_o (by omega), t_u_o (by omega), t_ad_z (by omega)]) h4
        have k5' := k5.symm
        subst k5'
        have e0 : T' (z * 9 + 0) = 5 := by rw [k6 _ (by omega) (by omega), t_u_s rfl]
        have e1 : T' (z * 9 + 1) = (tk p).2.1 := by rw [k6 _ (by omega) (by omega), t_u_o (by omega), t_u_o (by omega), t_u_o (by omega), t_ad_1 rfl]
        refine ⟨gpl_app (p1 := p + 1) (gpl_1 e1 (by omega)) j1 (by omega), fun U hU L q => ?_, fun q => by rw [e0] at q; omega⟩
        have := gl_5 (U := U) (L := L) (v := z) (q := q) (f := T' (z * 9 + 5)) (n := p' - (p + 1) - 2) (by rw [hU _ (by omega) (by omega) (by omega) (by omega)]; exact e0) (hU _ (by omega) (by omega) (by omega) (by omega)) (j2 U (fun j b1 b2 => hU j (by omega) b2 (by omega) (by omega)))
        omega
    · cases h
      have e0 : t_u (t_u (t_ad T z 2 (tk p).2.1) (z * 9 + 2) (tk p).2.1) (z * 9 + 3) (tk p).2.2.1 (z * 9 + 0) = 2 := by rw [t_u_o (by omega), t_u_o (by omega), t_ad_0 rfl]
      exact ⟨gpl_no (gno_1 e0 (by unfold nk; omega)), fun U hU L q => by
        have := gl_1 (U := U) (L := L) (v := z) (q := q) (.inr (by rw [hU _ (by omega) (by omega) (by omega) (by omega)]; exact e0))
        omega, fun q => by rw [e0] at q; omega⟩
  · cases h
end

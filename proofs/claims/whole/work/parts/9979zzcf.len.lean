/-! READING: chains, steps -/
section
variable {tk : Int → t_t} {c : Int} {prev : g_T}
/-- what holds of a chain's operands behind last -/
def gch (tk : Int → t_t) (T' : Int → Int) (z z' last p p' : Int) : Prop := gpl tk T' z z' p p' ∧ ∀ U : Int → Int, (∀ j, z * 9 ≤ j → j < z' * 9 → U j = T' j) → U (last * 9 + 7) = T' (last * 9 + 7) → ∀ L k mm q, ((c_cn U (c_em U L) k mm (t_nx U last) q).length : Int) ≤ p' - p
theorem gch_0 {T : Int → Int} {z last p : Int} (hl : 1 ≤ last) (h7 : T (last * 9 + 7) = 0) : gch tk T z z last p p := by
  refine ⟨⟨fun n n0 n1 => by omega, fun n m n0 nm m1 => by omega⟩, fun U hU hl' L k mm q => ?_⟩
  have e : t_nx U last = 0 := t_nx_z (by rw [hl']; exact h7) hl
  rw [e]
  have := gl_cn0 (U := U) (f := 0) (q := q) (m := mm) (k := k) (em := c_em U L) (Int.le_refl _)
  omega
/-- one more operand u, from z to z1 -/
theorem gch_s {T1 T' : Int → Int} {z z1 z' last u p pp p1 p' : Int} (x1 : gpl tk T1 z z1 pp p1) (x2 : gle T1 z z1 u (p1 - (p + 1))) (hpp : p ≤ pp ∧ p + 1 ≤ p1 ∧ p1 ≤ p') (hu : z ≤ u ∧ u < z1 ∧ z1 ≤ z') (hlu : last < u) (hlz : last < z) (e7 : T' (last * 9 + 7) = u) (fr : ∀ j, z * 9 ≤ j → j < z1 * 9 → j ≠ u * 9 + 7 → j ≠ u * 9 + 8 → T' j = T1 j) (j : gch tk T' z1 z' u p1 p') : gch tk T' z z' last p p' := by
  refine ⟨gpl_app (gpl_fr (gpl_mono x1 hpp.1 (Int.le_refl _)) (fun n n0 n1 => ⟨fr _ (by omega) (by omega) (by omega) (by omega), fr _ (by omega) (by omega) (by omega) (by omega)⟩)) j.1 (by omega), fun U hU hl' L k mm q => ?_⟩
  have e : t_nx U last = u := t_nx_is (by rw [hl', e7]) hlu
  rw [e]
  have g := gl_cn (U := U) (f := u) (L := L) (m := mm) (k := k) (q := q) (n1 := p1 - (p + 1)) (n2 := p' - p1) (x2 U (fun j b1 b2 b3 b4 => by rw [hU j (by omega) (by omega)]; exact fr j b1 b2 b3 b4)) (fun L k mm q => j.2 U (fun j b1 b2 => hU j (by omega) b2) (by rw [hU _ (by omega) (by omega)]) L k mm q)
  omega
/-- the chain's node between its first operand and the others -/
theorem gch_n {T1 T' : Int → Int} {z v z' u p p1 p' kd : Int} (x1 : gpl tk T1 z v p p1) (x2 : gle T1 z v u (p1 - p)) (hu : z ≤ u ∧ u < v) (hv : v < z') (hp : p ≤ p1 ∧ p1 ≤ p') (e0 : T' (v * 9 + 0) = kd) (hk : 11 ≤ kd ∧ kd ≤ 13) (e5 : T' (v * 9 + 5) = u) (fr : ∀ j, z * 9 ≤ j → j < v * 9 → j ≠ u * 9 + 7 → T' j = T1 j) (j : gch tk T' (v + 1) z' u p1 p') : gpl tk T' z z' p p' ∧ gle T' z z' v (p' - p) ∧ glx T' z z' v (p' - p) := by
  refine ⟨gpl_app (gpl_fr x1 (fun n n0 n1 => ⟨fr _ (by omega) (by omega) (by omega), fr _ (by omega) (by omega) (by omega)⟩)) (gpl_app (p1 := p1) (gpl_no (gno_1 e0 (by unfold nk; omega))) j.1 (by omega)) (by omega), fun U hU L q => ?_, fun q => by rw [e0] at q; omega⟩
  have g := gl_11 (U := U) (L := L) (v := v) (q := q) (f := u) (n1 := p1 - p) (n2 := p' - p1) (by rw [hU _ (by omega) (by omega) (by omega) (by omega), e0]; exact hk) (by rw [hU _ (by omega) (by omega) (by omega) (by omega)]; exact e5) (x2 U (fun j b1 b2 b3 b4 => by rw [hU j (by omega) (by omega) (by omega) (by omega)]; exact fr j b1 b2 b3)) (j.2 U (fun j b1 b2 => hU j (by omega) b2 (by omega) (by omega)) (hU _ (by omega) (by omega) (by omega) (by omega)))
  omega
theorem g_pk_X (hS : t_S tk c) (hp0 : g_ok c prev) (hX : ∀ w, w ≤ 4 → gX tk c (prev w)) {node : Int} : ∀ (m : Nat) (p z : Int) (T : Int → Int) (last p' z' : Int) (T' : Int → Int) (v : Int), 0 ≤ p → p ≤ c → 1 ≤ last → last < z → T (last * 9 + 7) = 0 → g_pk tk prev node m p z T last (.inr (p', z', T', v)) → gch tk T' z z' last p p'
  | 0, p, z, T, last, p', z', T', v, hp, hc, hl, hl2, h7, ⟨_, _, h⟩ => by
    cases h
    exact gch_0 hl h7
  | m + 1, p, z, T, last, p', z', T', v, hp, hc, hl, hl2, h7, h => by
    rcases h with ⟨h2, h3⟩ | ⟨h2, h3⟩
    · have q1 := z_M_lt hS ⟨hp, hc⟩ h2
      rcases h3 with ⟨a, -, h⟩ | ⟨p1, z1, T1, u, h3, h4⟩
      · cases h
      · obtain ⟨a1, a2, a3, a4, a5, a6, a7, a8, a9⟩ := g_part_ok hS hp0 (p := p + 1) (by omega) (by omega) (by omega) h3
        obtain ⟨x1, x2, -⟩ := g_part_X hS hp0 hX (p + 1) z T p1 z1 T1 u (by omega) (by omega) (by omega) h3
        obtain ⟨⟨i1, i2, i3, i4, i5⟩, -⟩ := g_pk_ok hS hp0 m p1 z1 _ u _ (by omega) a2 (by omega) a6 h4
        have r := g_pk_X hS hp0 hX (node := node) m p1 z1 _ u p' z' T' v (by omega) a2 (by omega) a6 (by rw [t_u_o (by omega), t_u_o (by omega)]; exact a8) h4
        exact gch_s x1 x2 (by omega) (by omega) (by omega) hl2 (by rw [i5 _ (by omega) (by omega), t_u_o (by omega), t_u_s rfl]) (fun j b1 b2 b3 b4 => by rw [i5 j b2 b3, t_u_o b4, t_u_o (by omega)]) r
    · have q1 := z_M_lt hS ⟨hp, hc⟩ h2
      rcases h3 with ⟨h3, -, h4⟩ | ⟨-, h⟩
      · have q2 := z_lt hS (p := p + 1) (by omega) (by rw [h3]; decide)
        obtain ⟨⟨i1, i2, i3, i4, i5⟩, -⟩ := g_pk_ok hS hp0 m (p + 2) (z + 1) _ z _ (by omega) (by omega) (by omega) (by omega) h4
        have r := g_pk_X hS hp0 hX (node := node) m (p + 2) (z + 1) _ z p' z' T' v (by omega) (by omega) (by omega) (by omega) (by rw [t_u_o (by omega), t_u_o (by omega), t_u_o (by omega), t_ad_z (by omega)]) h4
        have e0 : T' (z * 9 + 0) = 1 := by rw [i5 _ (by omega) (by omega), t_u_o (by omega), t_u_o (by omega), t_u_o (by omega), t_ad_0 rfl]
        refine gch_s (T1 := T') (pp := p) (gpl_no (gno_1 e0 (by unfold nk; omega))) (fun U hU L q => ?_) (by omega) (by omega) (by omega) hl2 (by rw [i5 _ (by omega) (by omega), t_u_o (by omega), t_u_s rfl]) (fun j b1 b2 b3 b4 => rfl) r
        have := gl_1 (U := U) (L := L) (v := z) (q := q) (.inl (by rw [hU _ (by omega) (by omega) (by omega) (by omega)]; exact e0))
        omega
      · cases h
theorem g_prod_X (hS : t_S tk c) (hp0 : g_ok c prev) (hX : ∀ w, w ≤ 4 → gX tk c (prev w)) : gX tk c (g_prod tk prev) := by
  intro p z T p' z' T' v hp hc hz h
  rcases h with ⟨a, -, h⟩ | ⟨p1, z1, T1, u, h1, h2⟩
  · cases h
  · obtain ⟨a1, a2, a3, a4, a5, a6, a7, a8, a9⟩ := g_part_ok hS hp0 hp hc hz h1
    obtain ⟨x1, x2, x3⟩ := g_part_X hS hp0 hX p z T p1 z1 T1 u hp hc hz h1
    rcases h2 with ⟨-, -, h⟩ | ⟨h2, m, h3⟩
    · cases h
      exact ⟨x1, x2, x3⟩
    · obtain ⟨⟨i1, i2, i3, i4, i5⟩, iv⟩ := g_pk_ok hS hp0 m p1 (z1 + 1) _ u _ (by omega) a2 (by omega) (by omega) h3
      have r := g_pk_X hS hp0 hX (node := z1) m p1 (z1 + 1) _ u p' z' T' v (by omega) a2 (by omega) (by omega) (by rw [t_u_o (by omega), t_ad_lo (by omega)]; exact a8) h3
      obtain rfl := iv _ _ _ _ rfl
      exact gch_n (kd := 12) x1 x2 (by omega) (by omega) (by omega) (by rw [i5 _ (by omega) (by omega), t_u_o (by omega), t_ad_0 rfl]) (by omega) (by rw [i5 _ (by omega) (by omega), t_u_s rfl]) (fun j b1 b2 b3 => by rw [i5 j (by omega) b3, t_u_o (by omega), t_ad_lo (by omega)]) r
theorem g_sk_X (hS : t_S tk c) (hp0 : g_ok c prev) (hX : ∀ w, w ≤ 4 → gX tk c (prev w)) {node : Int} : ∀ (m : Nat) (p z : Int) (T : Int → Int) (last p' z' : Int) (T' : Int → Int) (v : Int), 0 ≤ p → p ≤ c → 1 ≤ last → last < z → T (last * 9 + 7) = 0 → g_sk tk prev node m p z T last (.inr (p', z', T', v)) → gch tk T' z z' last p p'
  | 0, p, z, T, last, p', z', T', v, hp, hc, hl, hl2, h7, ⟨_, h⟩ => by
    cases h
    exact gch_0 hl h7
  | m + 1, p, z, T, last, p', z', T', v, hp, hc, hl, hl2, h7, ⟨s, h2, h3⟩ => by
    have q1 := z_pm_p hS ⟨hp, hc⟩ h2
    rcases h3 with ⟨a, -, h⟩ | ⟨p1, z1, T1, u, h3, h4⟩
    · cases h
    · obtain ⟨a1, a2, a3, a4, a5, a6, a7, a8, a9⟩ := g_prod_ok hS hp0 (p := p + 1) (by omega) (by omega) (by omega) h3
      obtain ⟨x1, x2, -⟩ := g_prod_X hS hp0 hX (p + 1) z T p1 z1 T1 u (by omega) (by omega) (by omega) h3
      obtain ⟨⟨i1, i2, i3, i4, i5⟩, -⟩ := g_sk_ok hS hp0 m p1 z1 _ u _ (by omega) a2 (by omega) a6 h4
      have r := g_sk_X hS hp0 hX (node := node) m p1 z1 _ u p' z' T' v (by omega) a2 (by omega) a6 (by rw [t_u_o (by omega), t_u_o (by omega)]; exact a8) h4
      exact gch_s x1 x2 (by omega) (by omega) (by omega) hl2 (by rw [i5 _ (by omega) (by omega), t_u_o (by omega), t_u_s rfl]) (fun j b1 b2 b3 b4 => by rw [i5 j b2 b3, t_u_o b4, t_u_o (by omega)]) r
theorem g_sum_X (hS : t_S tk c) (hp0 : g_ok c prev) (hX : ∀ w, w ≤ 4 → gX tk c (prev w)) : gX tk c (g_sum tk prev) := by
  intro p z T p' z' T' v hp hc hz h
  rcases h with ⟨a, -, h⟩ | ⟨p1, z1, T1, u, h1, h2⟩
  · cases h
  · obtain ⟨a1, a2, a3, a4, a5, a6, a7, a8, a9⟩ := g_prod_ok hS hp0 hp hc hz h1
    obtain ⟨x1, x2, x3⟩ := g_prod_X hS hp0 hX p z T p1 z1 T1 u hp hc hz h1
    rcases h2 with ⟨-, h⟩ | ⟨h2, m, h3⟩
    · cases h
      exact ⟨x1, x2, x3⟩
    · obtain ⟨⟨i1, i2, i3, i4, i5⟩, iv⟩ := g_sk_ok hS hp0 m p1 (z1 + 1) _ u _ (by omega) a2 (by omega) (by omega) h3
      have r := g_sk_X hS hp0 hX (node := z1) m p1 (z1 + 1) _ u p' z' T' v (by omega) a2 (by omega) (by omega) (by rw [t_u_o (by omega), t_ad_lo (by omega)]; exact a8) h3
      obtain rfl := iv _ _ _ _ rfl
      exact gch_n (kd := 11) x1 x2 (by omega) (by omega) (by omega) (by rw [i5 _ (by omega) (by omega), t_u_o (by omega), t_ad_0 rfl]) (by omega) (by rw [i5 _ (by omega) (by omega), t_u_s rfl]) (fun j b1 b2 b3 => by rw [i5 j (by omega) b3, t_u_o (by omega), t_ad_lo (by omega)]) r
theorem g_let_X (hS : t_S tk c) (hp0 : g_ok c prev) (hX : ∀ w, w ≤ 4 → gX tk c (prev w)) {p z p' z' v : Int} {T T' : Int → Int} (hp : 0 ≤ p) (hc : p < c) (hz : 1 ≤ z) (h : g_let tk prev p z T (.inr (p', z', T', v))) : gpl tk T' z z' p p' ∧ gle T' z z' v (p' - p) ∧ glx T' z z' v (p' - p) := by
  rcases h with ⟨h1, h⟩ | ⟨-, h⟩
  · have q1 := z_lt hS (p := p + 1) (by omega) (by rw [h1]; decide)
    rcases h with ⟨h2, h⟩ | ⟨-, h⟩
    · have q2 := z_M_lt hS (p := p + 2) (by omega) h2
      rcases h with ⟨a, -, h⟩ | ⟨p1, z1, T1, u, h3, h⟩
      · cases h
      · obtain ⟨a1, a2, a3, a4, a5, a6, a7, a8, a9⟩ := hp0 1 (p + 3) (z + 1) _ _ (by omega) (by omega) (by omega) (by omega) h3
        obtain ⟨x1, x2, -⟩ := hX 1 (by omega) (p + 3) (z + 1) _ p1 z1 T1 u (by omega) (by omega) (by omega) h3
        rcases h with ⟨h4, h⟩ | ⟨-, h⟩
        · have q3 := z_W_lt hS (p := p1) (by omega) h4
          rcases h with ⟨a, -, h⟩ | ⟨p2, z2, T2, x, h5, h⟩
          · cases h
          · obtain ⟨b1, b2, b3, b4, b5, b6, b7, b8, b9⟩ := hp0 0 (p1 + 1) z1 _ _ (by omega) (by omega) (by omega) (by omega) h5
            obtain ⟨y1, y2, -⟩ := hX 0 (by omega) (p1 + 1) z1 _ p2 z2 T2 x (by omega) (by omega) (by omega) h5
            cases h
            have e0 : t_u T2 (u * 9 + 7) x (z * 9 + 0) = 14 := by rw [t_u_o (by omega), b7 _ (by omega), t_u_o (by omega), a7 _ (by omega), t_u_o (by omega), t_u_o (by omega), t_ad_0 rfl]
            have e5 : t_u T2 (u * 9 + 7) x (z * 9 + 5) = u := by rw [t_u_o (by omega), b7 _ (by omega), t_u_s rfl]
            have f1 : ∀ j, (z + 1) * 9 ≤ j → j < z1 * 9 → j ≠ u * 9 + 7 → t_u T2 (u * 9 + 7) x j = T1 j := fun j c1 c2 c3 => by rw [t_u_o c3, b7 j (by omega), t_u_o (by omega)]
            refine ⟨gpl_app (p1 := p) (gpl_no (gno_1 e0 (by unfold nk; omega))) (gpl_app (gpl_mono (gpl_fr x1 (fun n n0 n1 => ⟨f1 _ (by omega) (by omega) (by omega), f1 _ (by omega) (by omega) (by omega)⟩)) (by omega) (Int.le_refl _)) (gpl_mono (gpl_fr y1 (fun n n0 n1 => ⟨t_u_o (by omega), t_u_o (by omega)⟩)) (by omega) (Int.le_refl _)) (by omega)) (by omega), fun U hU L q => ?_, fun q => by rw [e0] at q; omega⟩
            have g := gl_14 (U := U) (L := L) (v := z) (q := q) (f := u) (g := x) (n1 := p1 - (p + 3)) (n2 := p' - (p1 + 1)) (by rw [hU _ (by omega) (by omega) (by omega) (by omega)]; exact e0) (by rw [hU _ (by omega) (by omega) (by omega) (by omega)]; exact e5) (t_nx_is (by rw [hU _ (by omega) (by omega) (by omega) (by omega)]; exact t_u_s rfl) (by omega)) (x2 U (fun j c1 c2 c3 c4 => by rw [hU j (by omega) (by omega) (by omega) (by omega)]; exact f1 j c1 c2 c3)) (y2 U (fun j c1 c2 c3 c4 => by rw [hU j (by omega) (by omega) (by omega) (by omega)]; exact t_u_o (by omega)))
            omega
        · cases h
    · cases h
  · cases h
theorem g_if_X (hS : t_S tk c) (hp0 : g_ok c prev) (hX : ∀ w, w ≤ 4 → gX tk c (prev w)) {p z p' z' v : Int} {T T' : Int → Int} (hp : 0 ≤ p) (hc : p < c) (hz : 1 ≤ z) (h : g_if tk prev p z T (.inr (p', z', T', v))) : gpl tk T' z z' p p' ∧ gle T' z z' v (p' - p) ∧ glx T' z z' v (p' - p) := by
  rcases h with ⟨a, -, h⟩ | ⟨p1, z1, T1, a, h1, h⟩
  · cases h
  · obtain ⟨a1, a2, a3, a4, a5, a6, a7, a8, a9⟩ := g_sum_ok hS hp0 (p := p + 1) (by omega) (by omega) (by omega) h1
    obtain ⟨x1, x2, -⟩ := g_sum_X hS hp0 hX (p + 1) (z + 1) _ p1 z1 T1 a (by omega) (by omega) (by omega) h1
    rcases h with ⟨h2, h⟩ | ⟨-, h⟩
    · have q2 := z_r_lt hS (p := p1) (by omega) h2
      rcases h with ⟨x, -, h⟩ | ⟨p2, z2, T2, b, h3, h⟩
      · cases h
      · obtain ⟨b1, b2, b3, b4, b5, b6, b7, b8, b9⟩ := g_sum_ok hS hp0 (p := p1 + 1) (by omega) (by omega) (by omega) h3
        obtain ⟨y1, y2, -⟩ := g_sum_X hS hp0 hX (p1 + 1) z1 _ p2 z2 T2 b (by omega) (by omega) (by omega) h3
        rcases h with ⟨h4, h⟩ | ⟨-, h⟩
        · have q3 := z_W_lt hS (p := p2) (by omega) h4
          rcases h with ⟨x, -, h⟩ | ⟨p3, z3, T3, u, h5, h⟩
          · cases h
          · obtain ⟨c1, c2, c3, c4, c5, c6, c7, c8, c9⟩ := hp0 0 (p2 + 1) z2 _ _ (by omega) (by omega) (by omega) (by omega) h5
            obtain ⟨w1, w2, -⟩ := hX 0 (by omega) (p2 + 1) z2 _ p3 z3 T3 u (by omega) (by omega) (by omega) h5
            rcases h with ⟨h6, h⟩ | ⟨-, h⟩
            · have q4 := z_W_lt hS (p := p3) (by omega) h6
              rcases h with ⟨x, -, h⟩ | ⟨p4, z4, T4, y, h7, h⟩
              · cases h
              · obtain ⟨d1, d2, d3, d4, d5, d6, d7, d8, d9⟩ := hp0 0 (p3 + 1) z3 _ _ (by omega) (by omega) (by omega) (by omega) h7
                obtain ⟨v1, v2, -⟩ := hX 0 (by omega) (p3 + 1) z3 _ p4 z4 T4 y (by omega) (by omega) (by omega) h7
                rcases h with ⟨h8, h⟩ | ⟨-, h⟩
                · cases h
                  have e0 : t_u T4 (u * 9 + 7) y (z * 9 + 0) = 15 := by rw [t_u_o (by omega), d7 _ (by omega), t_u_o (by omega), c7 _ (by omega), t_u_o (by omega), b7 _ (by omega), t_u_o (by omega), t_u_o (by omega), a7 _ (by omega), t_ad_0 rfl]
                  have e5 : t_u T4 (u * 9 + 7) y (z * 9 + 5) = a := by rw [t_u_o (by omega), d7 _ (by omega), t_u_o (by omega), c7 _ (by omega), t_u_o (by omega), b7 _ (by omega), t_u_o (by omega), t_u_s rfl]
                  have n1 : t_u T4 (u * 9 + 7) y (a * 9 + 7) = b := by rw [t_u_o (by omega), d7 _ (by omega), t_u_o (by omega), c7 _ (by omega), t_u_s rfl]
                  have n2 : t_u T4 (u * 9 + 7) y (b * 9 + 7) = u := by rw [t_u_o (by omega), d7 _ (by omega), t_u_s rfl]
                  have n3 : t_u T4 (u * 9 + 7) y (u * 9 + 7) = y := t_u_s rfl
                  have f1 : ∀ j, (z + 1) * 9 ≤ j → j < z1 * 9 → j ≠ a * 9 + 7 → t_u T4 (u * 9 + 7) y j = T1 j := fun j e1 e2 e3 => by rw [t_u_o (by omega), d7 _ (by omega), t_u_o (by omega), c7 _ (by omega), t_u_o (by omega), b7 _ (by omega), t_u_o (by omega), t_u_o (by omega)]
                  have f2 : ∀ j, z1 * 9 ≤ j → j < z2 * 9 → j ≠ b * 9 + 7 → t_u T4 (u * 9 + 7) y j = T2 j := fun j e1 e2 e3 => by rw [t_u_o (by omega), d7 _ (by omega), t_u_o (by omega), c7 _ (by omega), t_u_o (by omega)]
                  have f3 : ∀ j, z2 * 9 ≤ j → j < z3 * 9 → j ≠ u * 9 + 7 → t_u T4 (u * 9 + 7) y j = T3 j := fun j e1 e2 e3 => by rw [t_u_o (by omega), d7 _ (by omega), t_u_o (by omega)]
                  have f4 : ∀ j, z3 * 9 ≤ j → j < z' * 9 → t_u T4 (u * 9 + 7) y j = T4 j := fun j e1 e2 => t_u_o (by omega)
                  refine ⟨gpl_app (p1 := p) (gpl_no (gno_1 e0 (by unfold nk; omega))) (gpl_app (gpl_mono (gpl_fr x1 (fun n n0 n1 => ⟨f1 _ (by omega) (by omega) (by omega), f1 _ (by omega) (by omega) (by omega)⟩)) (by omega) (Int.le_refl _)) (gpl_app (gpl_mono (gpl_fr y1 (fun n n0 n1 => ⟨f2 _ (by omega) (by omega) (by omega), f2 _ (by omega) (by omega) (by omega)⟩)) (by omega) (Int.le_refl _)) (gpl_app (gpl_mono (gpl_fr w1 (fun n n0 n1 => ⟨f3 _ (by omega) (by omega) (by omega), f3 _ (by omega) (by omega) (by omega)⟩)) (by omega) (Int.le_refl _)) (gpl_mono (gpl_fr v1 (fun n n0 n1 => ⟨f4 _ (by omega) (by omega), f4 _ (by omega) (by omega)⟩)) (by omega) (by omega)) (by omega)) (by omega)) (by omega)) (by omega), fun U hU L q => ?_, fun q => by rw [e0] at q; omega⟩
                  have hU' : ∀ j, (z + 1) * 9 ≤ j → j < z' * 9 → U j = t_u T4 (u * 9 + 7) y j := fun j e1 e2 => hU j (by omega) e2 (by omega) (by omega)
                  have g := gl_15 (U := U) (L := L) (v := z) (q := q) (f := a) (f2 := b) (f3 := u) (f4 := y) (n1 := p1 - (p + 1)) (n2 := p2 - (p1 + 1)) (n3 := p3 - (p2 + 1)) (n4 := p4 - (p3 + 1)) (by rw [hU _ (by omega) (by omega) (by omega) (by omega)]; exact e0) (by rw [hU _ (by omega) (by omega) (by omega) (by omega)]; exact e5) (t_nx_is (by rw [hU' _ (by omega) (by omega)]; exact n1) (by omega)) (t_nx_is (by rw [hU' _ (by omega) (by omega)]; exact n2) (by omega)) (t_nx_is (by rw [hU' _ (by omega) (by omega)]; exact n3) (by omega)) (x2 U (fun j e1 e2 e3 e4 => by rw [hU' j (by omega) (by omega)]; exact f1 j e1 e2 e3)) (y2 U (fun j e1 e2 e3 e4 => by rw [hU' j (by omega) (by omega)]; exact f2 j e1 e2 e3)) (w2 U (fun j e1 e2 e3 e4 => by rw [hU' j (by omega) (by omega)]; exact f3 j e1 e2 e3)) (v2 U (fun j e1 e2 e3 e4 => by rw [hU' j (by omega) (by omega)]; exact f4 j e1 e2))
                  omega
                · cases h
            · cases h
        · cases h
    · cases h
theorem g_step_X (hS : t_S tk c) (hp0 : g_ok c prev) (hX : ∀ w, w ≤ 4 → gX tk c (prev w)) : gX tk c (g_step tk prev) := by
  intro p z T p' z' T' v hp hc hz h
  rcases h with ⟨h1, h⟩ | ⟨h1, h⟩ | ⟨-, -, h⟩
  · exact g_let_X hS hp0 hX hp (z_W_lt hS ⟨hp, hc⟩ h1) hz h
  · exact g_if_X hS hp0 hX hp (z_W_lt hS ⟨hp, hc⟩ h1) hz h
  · rcases h with ⟨a, -, h⟩ | ⟨p1, z1, T1, u, h1, h2⟩
    · cases h
    · have hA := g_sum_A hS hp0 hp hc hz h1
      obtain ⟨a1, a2, a3, a4, a5, a6, a7, a8, a9⟩ := g_sum_ok hS hp0 hp hc hz h1
      obtain ⟨x1, x2, x3⟩ := g_sum_X hS hp0 hX p z T p1 z1 T1 u hp hc hz h1
      rcases h2 with ⟨h2, h3, h4⟩ | ⟨-, h⟩
      · have q1 := z_M_lt hS (p := p1) (by omega) h3
        obtain ⟨f1, f2⟩ := hA h2
        rcases h4 with ⟨a, -, h⟩ | ⟨p2, z2, T2, x, h4, h⟩
        · cases h
        · obtain ⟨b1, b2, b3, b4, b5, b6, b7, b8, b9⟩ := hp0 1 (p1 + 1) z1 _ _ (by omega) (by omega) (by omega) (by omega) h4
          obtain ⟨y1, y2, -⟩ := hX 1 (by omega) (p1 + 1) z1 _ p2 z2 T2 x (by omega) (by omega) (by omega) h4
          cases h
          obtain ⟨i, hi⟩ : ∃ i, i = T1 (v * 9 + 5) := ⟨_, rfl⟩
          have x3' := x3 h2
          rw [← hi] at f1 f2 x3' ⊢
          have e0 : t_u (t_u T2 (i * 9 + 7) x) (v * 9 + 0) 4 (v * 9 + 0) = 4 := t_u_s rfl
          have e5 : t_u (t_u T2 (i * 9 + 7) x) (v * 9 + 0) 4 (v * 9 + 5) = i := by rw [t_u_o (by omega), t_u_o (by omega), b7 _ (by omega)]; exact hi.symm
          have e7 : t_u (t_u T2 (i * 9 + 7) x) (v * 9 + 0) 4 (i * 9 + 7) = x := by rw [t_u_o (by omega), t_u_s rfl]
          have g1 : ∀ j, z * 9 ≤ j → j < z1 * 9 → j ≠ v * 9 + 0 → j ≠ i * 9 + 7 → t_u (t_u T2 (i * 9 + 7) x) (v * 9 + 0) 4 j = T1 j := fun j c1 c2 c3 c4 => by rw [t_u_o c3, t_u_o c4, b7 j (by omega)]
          have g2 : ∀ j, z1 * 9 ≤ j → j < z' * 9 → t_u (t_u T2 (i * 9 + 7) x) (v * 9 + 0) 4 j = T2 j := fun j c1 c2 => by rw [t_u_o (by omega), t_u_o (by omega)]
          have k1 : gpl tk (t_u (t_u T2 (i * 9 + 7) x) (v * 9 + 0) 4) z z1 p p1 := by
            have hk : ∀ n, z ≤ n → n < z1 → nk (t_u (t_u T2 (i * 9 + 7) x) (v * 9 + 0) 4 (n * 9 + 0)) → nk (T1 (n * 9 + 0)) := fun n n0 n1 hn => by
              by_cases q : n = v
              · rw [q, h2]; unfold nk; omega
              · rw [g1 _ (by omega) (by omega) (by omega) (by omega)] at hn; exact hn
            have hp1 : ∀ n, z ≤ n → n < z1 → t_u (t_u T2 (i * 9 + 7) x) (v * 9 + 0) 4 (n * 9 + 1) = T1 (n * 9 + 1) := fun n n0 n1 => g1 _ (by omega) (by omega) (by omega) (by omega)
            exact ⟨fun n n0 n1 hn => by rw [hp1 n n0 n1]; exact x1.1 n n0 n1 (hk n n0 n1 hn), fun n m n0 nm m1 hn hm => by rw [hp1 n n0 (by omega), hp1 m (by omega) m1]; exact x1.2 n m n0 nm m1 (hk n n0 (by omega) hn) (hk m (by omega) m1 hm)⟩
          refine ⟨gpl_app k1 (gpl_mono (gpl_fr y1 (fun n n0 n1 => ⟨g2 _ (by omega) (by omega), g2 _ (by omega) (by omega)⟩)) (by omega) (Int.le_refl _)) (by omega), fun U hU L q => ?_, fun q => by rw [e0] at q; omega⟩
          have g := gl_4 (U := U) (L := L) (v := v) (q := q) (f := i) (g := x) (n1 := p1 - p - 2) (n2 := p' - (p1 + 1)) (by rw [hU _ (by omega) (by omega) (by omega) (by omega)]; exact e0) (by rw [hU _ (by omega) (by omega) (by omega) (by omega)]; exact e5) (t_nx_is (by rw [hU _ (by omega) (by omega) (by omega) (by omega)]; exact e7) (by omega)) (x3' U (fun j c1 c2 c3 c4 c5 c6 => by rw [hU j (by omega) (by omega) c3 c4]; exact g1 j c1 c2 c5 c6)) (y2 U (fun j c1 c2 c3 c4 => by rw [hU j (by omega) (by omega) (by omega) (by omega)]; exact g2 j c1 c2))
          omega
      · cases h
        exact ⟨x1, x2, x3⟩
theorem g_qk_X (hS : t_S tk c) (hp0 : g_ok c prev) (hX : ∀ w, w ≤ 4 → gX tk c (prev w)) {node : Int} : ∀ (m : Nat) (p z : Int) (T : Int → Int) (last p' z' : Int) (T' : Int → Int) (v : Int), 0 ≤ p → p ≤ c → 1 ≤ last → last < z → T (last * 9 + 7) = 0 → g_qk tk prev node m p z T last (.inr (p', z', T', v)) → gch tk T' z z' last p p'
  | 0, p, z, T, last, p', z', T', v, hp, hc, hl, hl2, h7, ⟨_, h⟩ => by
    cases h
    exact gch_0 hl h7
  | m + 1, p, z, T, last, p', z', T', v, hp, hc, hl, hl2, h7, ⟨h2, h3⟩ => by
    have q1 := z_M_lt hS ⟨hp, hc⟩ h2
    rcases h3 with ⟨a, -, h⟩ | ⟨p1, z1, T1, u, h3, h4⟩
    · cases h
    · obtain ⟨a1, a2, a3, a4, a5, a6, a7, a8, a9⟩ := g_step_ok hS hp0 (p := p + 1) (by omega) (by omega) (by omega) h3
      obtain ⟨x1, x2, -⟩ := g_step_X hS hp0 hX (p + 1) z T p1 z1 T1 u (by omega) (by omega) (by omega) h3
      obtain ⟨⟨i1, i2, i3, i4, i5⟩, -⟩ := g_qk_ok hS hp0 m p1 z1 _ u _ (by omega) a2 (by omega) a6 h4
      have r := g_qk_X hS hp0 hX (node := node) m p1 z1 _ u p' z' T' v (by omega) a2 (by omega) a6 (by rw [t_u_o (by omega)]; exact a8) h4
      exact gch_s x1 x2 (by omega) (by omega) (by omega) hl2 (by rw [i5 _ (by omega) (by omega), t_u_s rfl]) (fun j b1 b2 b3 b4 => by rw [i5 j b2 b3, t_u_o (by omega)]) r
theorem g_steps_X (hS : t_S tk c) (hp0 : g_ok c prev) (hX : ∀ w, w ≤ 4 → gX tk c (prev w)) : gX tk c (g_steps tk prev) := by
  intro p z T p' z' T' v hp hc hz h
  rcases h with ⟨a, -, h⟩ | ⟨p1, z1, T1, u, h1, h2⟩
  · cases h
  · obtain ⟨a1, a2, a3, a4, a5, a6, a7, a8, a9⟩ := g_step_ok hS hp0 hp hc hz h1
    obtain ⟨x1, x2, x3⟩ := g_step_X hS hp0 hX p z T p1 z1 T1 u hp hc hz h1
    rcases h2 with ⟨-, h⟩ | ⟨h2, m, h3⟩
    · cases h
      exact ⟨x1, x2, x3⟩
    · obtain ⟨⟨i1, i2, i3, i4, i5⟩, iv⟩ := g_qk_ok hS hp0 m p1 (z1 + 1) _ u _ (by omega) a2 (by omega) (by omega) h3
      have r := g_qk_X hS hp0 hX (node := z1) m p1 (z1 + 1) _ u p' z' T' v (by omega) a2 (by omega) (by omega) (by rw [t_u_o (by omega), t_ad_lo (by omega)]; exact a8) h3
      obtain rfl := iv _ _ _ _ rfl
      exact gch_n (kd := 13) x1 x2 (by omega) (by omega) (by omega) (by rw [i5 _ (by omega) (by omega), t_u_o (by omega), t_ad_0 rfl]) (by omega) (by rw [i5 _ (by omega) (by omega), t_u_s rfl]) (fun j b1 b2 b3 => by rw [i5 j (by omega) b3, t_u_o (by omega), t_ad_lo (by omega)]) r
theorem g_R_X (hS : t_S tk c) : ∀ (n w : Nat), w ≤ 4 → gX tk c (g_R tk n w)
  | 0, w, hw => fun p z T p' z' T' v hp hc hz h => by
    have h : (.inr (p', z', T', v) : g_o) = .inl (tk p).2.1 := h
    cases h
  | n + 1, w, hw => fun p z T p' z' T' v hp hc hz h => by
    have ih := g_R_X hS n
    have ok := g_R_ok hS n
    have hc5 : w = 0 ∨ w = 1 ∨ w = 2 ∨ w = 3 ∨ w = 4 := by omega
    rcases hc5 with rfl | rfl | rfl | rfl | rfl
    · exact g_steps_X hS ok ih p z T p' z' T' v hp hc hz h
    · exact g_step_X hS ok ih p z T p' z' T' v hp hc hz h
    · exact g_sum_X hS ok ih p z T p' z' T' v hp hc hz h
    · exact g_prod_X hS ok ih p z T p' z' T' v hp hc hz h
    · exact g_part_X hS ok ih p z T p' z' T' v hp hc hz h
end

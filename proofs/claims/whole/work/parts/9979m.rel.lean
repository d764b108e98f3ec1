/-! WHAT THE CLASS'S TREE HOLDS of props and types, as they are read -/
/-- the place of an index -/
def z_pl : List z_t → Int
  | [] => 0
  | t :: _ => t.2.2.2.2
theorem z_I_pl {tk : Int → t_t} {p p' : Int} {L : List z_t} (h : z_I tk p L p') : z_pl L = (tk p).2.1 := by
  obtain ⟨t, l, p1, rfl, h1, -⟩ := h
  unfold z_tm at h1
  show t.2.2.2.2 = _
  split at h1
  · split at h1
    · split at h1
      · cases h1; rfl
      · cases h1
    · cases h1; rfl
  · split at h1
    · cases h1; rfl
    · cases h1
def z_pk (x : z_p) : Prop := ((∀ t ∈ x.2.2.1, z_tk t) ∧ x.2.2.1 ≠ []) ∧ ((∀ t ∈ x.2.2.2.1, z_tk t) ∧ x.2.2.2.1 ≠ []) ∧ x.2.1 = z_pl x.2.2.1 ∧ x.2.2.2.2 = z_pl x.2.2.2.1 ∧ 0 ≤ x.1 ∧ x.1 ≤ 4
theorem t_p0_C {T : Int → Int} {z : Int} {x : z_p} (hz : 1 ≤ z) (hx : z_pk x) : (t_p0 T z x (z * 9 + 0) = 18 ∧ t_p0 T z x (z * 9 + 4) = x.1) ∧ t_p0 T z x (z * 9 + 7) = 0 ∧ ixC (t_p0 T z x) z (z + z_pn x) (t_p0 T z x (z * 9 + 5)) x.2.2.1 ∧ ixC (t_p0 T z x) z (z + z_pn x) (t_p0 T z x (z * 9 + 6)) x.2.2.2.1 := by
  obtain ⟨r, xa, L1, L2, a2⟩ := x
  obtain ⟨⟨k1, k2⟩, ⟨k3, k4⟩, -⟩ := hx
  dsimp only at k1 k2 k3 k4
  unfold z_pn
  dsimp only
  have l1 : 1 ≤ L1.length := by cases L1 with | nil => exact absurd rfl k2 | cons _ _ => simp
  have l2 : 1 ≤ L2.length := by cases L2 with | nil => exact absurd rfl k4 | cons _ _ => simp
  have c1 := (t_ix_C L1 (t_ad T z 18 xa) (z + 1) 0 (by omega) (by omega) k1 k2).1
  -- names for the stages
  generalize hA : t_ix (t_ad T z 18 xa) (z + 1) 0 L1 = A at c1
  have eA : ∀ j, j < (z + 1) * 9 → A j = t_ad T z 18 xa j := fun j hj => by rw [← hA]; exact t_ix_lo _ _ _ _ _ hj (.inl rfl)
  have c2 := (t_ix_C L2 (t_u (t_u A (z * 9 + 5) (z + 1)) (z * 9 + 4) r) (z + 1 + L1.length) 0 (by omega) (by omega) k3 k4).1
  have eP : t_p0 T z (r, xa, L1, L2, a2) = t_u (t_ix (t_u (t_u A (z * 9 + 5) (z + 1)) (z * 9 + 4) r) (z + 1 + L1.length) 0 L2) (z * 9 + 6) (z + 1 + L1.length) := by
    unfold t_p0
    dsimp only
    rw [hA]
  generalize hB : t_ix (t_u (t_u A (z * 9 + 5) (z + 1)) (z * 9 + 4) r) (z + 1 + L1.length) 0 L2 = B at c2 eP
  have eB : ∀ j, j < (z + 1 + L1.length) * 9 → B j = t_u (t_u A (z * 9 + 5) (z + 1)) (z * 9 + 4) r j := fun j hj => by rw [← hB]; exact t_ix_lo _ _ _ _ _ hj (.inl rfl)
  rw [eP]
  refine ⟨?_, ?_, ?_, ?_⟩
  · exact ⟨by rw [t_u_o (by omega), eB _ (by omega), t_u_o (by omega), t_u_o (by omega), eA _ (by omega), t_ad_0 rfl], by rw [t_u_o (by omega), eB _ (by omega), t_u_s rfl]⟩
  · rw [t_u_o (by omega), eB _ (by omega), t_u_o (by omega), t_u_o (by omega), eA _ (by omega), t_ad_z (by omega)]
  · have e5 : t_u B (z * 9 + 6) (z + 1 + L1.length) (z * 9 + 5) = z + 1 := by rw [t_u_o (by omega), eB _ (by omega), t_u_o (by omega), t_u_s rfl]
    rw [e5]
    refine ixC_fr (T := A) (fun j j1 j2 => ?_) (by omega) (by omega) c1
    rw [t_u_o (by omega), eB _ (by omega), t_u_o (by omega), t_u_o (by omega)]
  · rw [t_u_s rfl]
    refine ixC_fr (T := B) (fun j j1 j2 => ?_) (by omega) (by omega) c2
    rw [t_u_o (by omega)]
theorem z_pn_1 (x : z_p) : 1 ≤ z_pn x := by unfold z_pn; omega
theorem t_pp_C {T : Int → Int} {z last : Int} {x : z_p} (hl : 0 ≤ last ∧ last < z) (hx : z_pk x) : (t_pp T z last x (z * 9 + 0) = 18 ∧ t_pp T z last x (z * 9 + 4) = x.1) ∧ t_pp T z last x (z * 9 + 7) = 0 ∧ ixC (t_pp T z last x) z (z + z_pn x) (t_pp T z last x (z * 9 + 5)) x.2.2.1 ∧ ixC (t_pp T z last x) z (z + z_pn x) (t_pp T z last x (z * 9 + 6)) x.2.2.2.1 ∧ (last ≠ 0 → t_pp T z last x (last * 9 + 7) = z) := by
  obtain ⟨a, b, c, f⟩ := t_p0_C (T := T) (z := z) (x := x) (by omega) hx
  unfold t_pp
  by_cases h : last = 0
  · rw [if_pos h]
    exact ⟨a, b, c, f, fun q => absurd h q⟩
  · rw [if_neg h]
    refine ⟨?_, ?_, ?_, ?_, fun _ => t_u_s rfl⟩
    · exact ⟨by rw [t_u_o (by omega)]; exact a.1, by rw [t_u_o (by omega)]; exact a.2⟩
    · rw [t_u_o (by omega)]; exact b
    · rw [t_u_o (by omega)]
      exact ixC_fr (fun j j1 j2 => t_u_o (by omega)) (Int.le_refl _) (Int.le_refl _) c
    · rw [t_u_o (by omega)]
      exact ixC_fr (fun j j1 j2 => t_u_o (by omega)) (Int.le_refl _) (Int.le_refl _) f
theorem t_ps_C : ∀ (L : List z_p) (T : Int → Int) (z last : Int), 0 ≤ last → last < z → (∀ x ∈ L, z_pk x) → L ≠ [] → psC (t_ps T z last L) z (z + z_psn L) z L ∧ (last ≠ 0 → t_ps T z last L (last * 9 + 7) = z)
  | [], _, _, _, _, _, _, h => absurd rfl h
  | [x], T, z, last, h0, h1, hx, _ => by
    have n1 := z_pn_1 x
    have e0 : z_psn [x] = z_pn x := by show z_pn x + 0 = _; omega
    obtain ⟨f1, f2, f3, f4, f5⟩ := t_pp_C (T := T) (z := z) ⟨h0, h1⟩ (hx x List.mem_cons_self)
    rw [e0]
    refine ⟨⟨⟨Int.le_refl _, by omega⟩, f1, f3, f4, ?_⟩, f5⟩
    show t_nx (t_pp T z last x) z = 0
    unfold t_nx
    rw [f2, if_neg (by omega)]
  | x :: y :: l, T, z, last, h0, h1, hx, _ => by
    have n1 := z_pn_1 x
    have n2 := z_psn_0 (y :: l)
    have e0 : z_psn (x :: y :: l) = z_pn x + z_psn (y :: l) := rfl
    obtain ⟨f1, f2, f3, f4, f5⟩ := t_pp_C (T := T) (z := z) ⟨h0, h1⟩ (hx x List.mem_cons_self)
    obtain ⟨i1, i2⟩ := t_ps_C (y :: l) (t_pp T z last x) (z + z_pn x) z (by omega) (by omega) (fun u hu => hx u (List.mem_cons_of_mem _ hu)) (by simp)
    have lo : ∀ j, j < (z + z_pn x) * 9 → j ≠ z * 9 + 7 → t_ps (t_pp T z last x) (z + z_pn x) z (y :: l) j = t_pp T z last x j := fun j a b => t_ps_lo _ _ _ _ _ a (.inr b)
    have e : t_ps T z last (x :: y :: l) = t_ps (t_pp T z last x) (z + z_pn x) z (y :: l) := rfl
    have hn := i2 (by omega)
    have n3 : 1 ≤ z_psn (y :: l) := by
      have := z_pn_1 y
      have := z_psn_0 l
      show 1 ≤ z_pn y + z_psn l
      omega
    -- the index chains begin behind z, so z's own next doesn't matter to them
    have ch : ∀ {L : List z_t} {c : Int}, z + 1 ≤ c ∨ L = [] → ixC (t_pp T z last x) z (z + z_pn x) c L → ixC (t_ps (t_pp T z last x) (z + z_pn x) z (y :: l)) z (z + (z_pn x + z_psn (y :: l))) c L := by
      intro L
      induction L with
      | nil => intro c _ q; exact q
      | cons t L ih =>
        intro c hc q
        obtain ⟨b0, b1, b2, b3, b4, b5⟩ := q
        have hc' : z + 1 ≤ c := by rcases hc with hc | hc; exact hc; cases hc
        refine ⟨by omega, ?_, ?_, ?_, ?_, ?_⟩
        · exact ⟨by rw [lo _ (by omega) (by omega)]; exact b1.1, by rw [lo _ (by omega) (by omega)]; exact b1.2⟩
        · rw [lo _ (by omega) (by omega)]; exact b2
        · rw [lo _ (by omega) (by omega)]; exact b3
        · rw [lo _ (by omega) (by omega)]; exact b4
        · rw [t_nx_fr (lo _ (by omega) (by omega))]
          refine ih ?_ b5
          by_cases hL : L = []
          · exact .inr hL
          · left
            cases L with
            | nil => exact absurd rfl hL
            | cons u L' =>
              have b6 := b5.1
              unfold t_nx at b6 ⊢
              split at b6 <;> rename_i h7
              · rw [if_pos h7]; omega
              · omega
    obtain ⟨g1, g2, g3, g4⟩ := t_p0_C (T := T) (z := z) (x := x) (by omega) (hx x List.mem_cons_self)
    have five : t_pp T z last x (z * 9 + 5) = z + 1 ∧ t_pp T z last x (z * 9 + 6) = z + 1 + x.2.2.1.length := by
      have q5 : t_p0 T z x (z * 9 + 5) = z + 1 := by
        unfold t_p0
        rw [t_u_o (by omega), t_ix_lo _ _ _ _ _ (by omega) (.inl rfl), t_u_o (by omega), t_u_s rfl]
      have q6 : t_p0 T z x (z * 9 + 6) = z + 1 + x.2.2.1.length := by
        unfold t_p0
        rw [t_u_s rfl]
      unfold t_pp
      by_cases h : last = 0
      · rw [if_pos h]; exact ⟨q5, q6⟩
      · rw [if_neg h, t_u_o (by omega), t_u_o (by omega)]; exact ⟨q5, q6⟩
    rw [e, e0]
    refine ⟨⟨⟨Int.le_refl _, by omega⟩, ?_, ?_, ?_, ?_⟩, fun q => ?_⟩
    · exact ⟨by rw [lo _ (by omega) (by omega)]; exact f1.1, by rw [lo _ (by omega) (by omega)]; exact f1.2⟩
    · rw [lo _ (by omega) (by omega)]
      exact ch (.inl (by rw [five.1]; omega)) f3
    · rw [lo _ (by omega) (by omega)]
      exact ch (.inl (by rw [five.2]; omega)) f4
    · have e2 : t_nx (t_ps (t_pp T z last x) (z + z_pn x) z (y :: l)) z = z + z_pn x := by
        unfold t_nx
        rw [hn, if_pos (by omega)]
      rw [e2]
      exact psC_fr (fun _ _ _ => rfl) (by omega) (by omega) i1
    · rw [lo _ (by omega) (by omega)]; exact f5 q
theorem z_P1_k {tk : Int → t_t} {c p p' : Int} {x : z_p} (hS : t_S tk c) (hp : 0 ≤ p ∧ p ≤ c) (h : z_P1 tk p x p') : z_pk x := by
  obtain ⟨p1, e1, h1, h2, er, h3, e2⟩ := h
  have q1 := z_I_p hS hp h1
  have q2 := z_r_lt hS (p := p1) (by omega) h2
  have q3 := z_r_c (tk p1)
  exact ⟨z_I_k hS hp h1, z_I_k hS (p := p1 + 1) (by omega) h3, e1.trans (z_I_pl h1).symm, e2.trans (z_I_pl h3).symm, by omega, by omega⟩
theorem z_PK_k {tk : Int → t_t} {c : Int} (hS : t_S tk c) : ∀ {l : List z_p} {k p p' : Int}, 0 ≤ p ∧ p ≤ c → z_PK tk k p l p' → ∀ x ∈ l, z_pk x
  | [], _, _, _, _, _, _, h => by cases h
  | x :: l, k, p, p', hp, ⟨h0, h1, p1, h2, h3⟩, y, hy => by
    have q1 := z_M_lt hS hp h1
    have q2 := z_P1_p hS (p := p + 1) (by omega) h2
    rcases List.mem_cons.mp hy with rfl | hy
    · exact z_P1_k hS (p := p + 1) (by omega) h2
    · exact z_PK_k hS (by omega) h3 y hy
theorem z_Ps_k {tk : Int → t_t} {c p p' : Int} {L : List z_p} (hS : t_S tk c) (hp : 0 ≤ p ∧ p ≤ c) (h : z_Ps tk p L p') : (∀ x ∈ L, z_pk x) ∧ L ≠ [] := by
  obtain ⟨x, l, p1, rfl, h1, h2⟩ := h
  have q1 := z_P1_p hS hp h1
  refine ⟨fun y hy => ?_, by simp⟩
  rcases List.mem_cons.mp hy with rfl | hy
  · exact z_P1_k hS hp h1
  · exact z_PK_k hS (by omega) h2 y hy
/-- a type in the class's tree -/
theorem t_ty_C {tk : Int → t_t} {c p p' z : Int} {T : Int → Int} {x : z_T} (hS : t_S tk c) (hp : 0 ≤ p ∧ p ≤ c) (hz : 1 ≤ z) (h : z_Ty tk p x p') : tyC (t_ty T z x) z (z + z_tn x) z x := by
  have hn := (z_Ty_p hS hp h).2.2.2.2.1
  have hlt := (z_Ty_p hS hp h).2.2.2.2.2
  obtain ⟨x1, x2, ⟨x3, x4⟩, ⟨x5, x6⟩, x7⟩ := x
  obtain ⟨h0, h⟩ := h
  unfold z_tn at hn ⊢
  unfold t_ty
  dsimp only at h0 h hn ⊢
  refine ⟨⟨Int.le_refl _, by omega⟩, ?_⟩
  dsimp only
  rcases h with ⟨h1, -, -, -, h2⟩ | ⟨L, p1, h1, h2, h3, h4, -, h5⟩ | ⟨L, p1, h1, h2, h3, h4, h5, h6, -, h7⟩
  · simp only [Prod.mk.injEq] at h2
    obtain ⟨rfl, -⟩ := h2
    rw [if_pos rfl]
    exact .inl ⟨rfl, t_ad_0 rfl⟩
  · simp only [Prod.mk.injEq] at h5
    obtain ⟨-, -, ⟨-, rfl⟩, -, rfl⟩ := h5
    have l2 := z_M_lt hS (p := p + 1) (by omega) h2
    obtain ⟨k1, k2⟩ := z_I_k hS (p := p + 2) (by omega) h3
    have hc : ∀ s : Int, ixC (t_u (t_ix (t_u (t_ad T z 19 x2) (z * 9 + 0) s) (z + 1) 0 x4) (z * 9 + 5) (z + 1)) z (z + (1 + x4.length + z_psn [])) (z + 1) x4 := fun s => by
      have e0 : z_psn [] = 0 := rfl
      refine ixC_fr (fun j j1 j2 => t_u_o (by omega)) (by omega) (by omega) (t_ix_C x4 (t_u (t_ad T z 19 x2) (z * 9 + 0) s) (z + 1) 0 (by omega) (by omega) k1 k2).1
    have hs : ∀ s : Int, t_u (t_ix (t_u (t_ad T z 19 x2) (z * 9 + 0) s) (z + 1) 0 x4) (z * 9 + 5) (z + 1) (z * 9 + 0) = s := fun s => by
      rw [t_u_o (by omega), t_ix_lo _ _ _ _ _ (by omega) (.inl rfl), t_u_s rfl]
    rcases h1 with ⟨-, rfl⟩ | ⟨-, rfl⟩
    · rw [if_neg (by decide), if_neg (by decide), if_neg (by decide)]
      exact .inr (.inl ⟨rfl, hs 20, by rw [t_u_s rfl]; exact hc 20⟩)
    · rw [if_neg (by decide), if_neg (by decide), if_pos rfl]
      exact .inr (.inr (.inl ⟨rfl, hs 22, by rw [t_u_s rfl]; exact hc 22⟩))
  · simp only [Prod.mk.injEq] at h7
    obtain ⟨rfl, -, ⟨-, rfl⟩, ⟨rfl, -⟩, rfl⟩ := h7
    have l2 := z_M_lt hS (p := p + 1) (by omega) h2
    have l3 := z_lt hS (p := p + 2) (by omega) (by rw [h3]; decide)
    have l4 := z_M_lt hS (p := p + 3) (by omega) h4
    obtain ⟨k1, k2⟩ := z_Ps_k hS (p := p + 4) (by omega) h5
    rw [if_neg (by decide), if_pos rfl]
    refine .inr (.inr (.inr ⟨rfl, ?_, ?_, ?_⟩))
    · rw [t_u_o (by omega), t_ps_lo _ _ _ _ _ (by omega) (.inl rfl), t_u_o (by omega), t_u_s rfl]
    · rw [t_u_o (by omega), t_ps_lo _ _ _ _ _ (by omega) (.inl rfl), t_u_s rfl]
    · rw [t_u_s rfl]
      refine psC_fr (fun j j1 j2 => t_u_o (by omega)) (by omega) ?_ (t_ps_C x7 _ (z + 1) 0 (by omega) (by omega) k1 k2).1
      simp
      omega
/-- what holds of a type that was read -/
def z_Tk (x : z_T) : Prop := (x.1 = 1 ∨ x.1 = 3 → ((∀ t ∈ x.2.2.1.2, z_tk t) ∧ x.2.2.1.2 ≠ []) ∧ x.2.2.1.1 = z_pl x.2.2.1.2) ∧ (x.1 = 2 → w_w x.2.2.2.1.1 x.2.2.2.1.2 ∧ (∀ y ∈ x.2.2.2.2, z_pk y) ∧ x.2.2.2.2 ≠ [] ∧ x.2.2.2.2.length ≤ 4)
theorem z_Ty_k {tk : Int → t_t} {c p p' : Int} {x : z_T} (hS : t_S tk c) (hp : 0 ≤ p ∧ p ≤ c) (h : z_Ty tk p x p') : z_Tk x := by
  have hlt := (z_Ty_p hS hp h).2.2.2.2.2
  obtain ⟨x1, x2, ⟨x3, x4⟩, ⟨x5, x6⟩, x7⟩ := x
  obtain ⟨h0, h⟩ := h
  dsimp only at h0 h
  rcases h with ⟨h1, -, -, -, h2⟩ | ⟨L, p1, h1, h2, h3, h4, -, h5⟩ | ⟨L, p1, h1, h2, h3, h4, h5, h6, -, h7⟩
  · simp only [Prod.mk.injEq] at h2
    obtain ⟨rfl, -⟩ := h2
    exact ⟨fun h => by dsimp only at h; omega, fun h => by dsimp only at h; omega⟩
  · simp only [Prod.mk.injEq] at h5
    obtain ⟨-, -, ⟨e3, rfl⟩, -, rfl⟩ := h5
    have l2 := z_M_lt hS (p := p + 1) (by omega) h2
    have k := z_I_k hS (p := p + 2) (by omega) h3
    refine ⟨fun _ => ⟨k, e3.trans (z_I_pl h3).symm⟩, fun h => ?_⟩
    dsimp only at h
    rcases h1 with ⟨-, h1⟩ | ⟨-, h1⟩ <;> omega
  · simp only [Prod.mk.injEq] at h7
    obtain ⟨rfl, -, ⟨-, rfl⟩, ⟨rfl, rfl⟩, rfl⟩ := h7
    have l2 := z_M_lt hS (p := p + 1) (by omega) h2
    have l3 := z_lt hS (p := p + 2) (by omega) (by rw [h3]; decide)
    have l4 := z_M_lt hS (p := p + 3) (by omega) h4
    have k := z_Ps_k hS (p := p + 4) (by omega) h5
    have hr := hS.2.2.1 (p + 2) (by omega) (by omega)
    have kl := z_Ps_p hS (p := p + 4) (by omega) h5
    refine ⟨fun h => by dsimp only at h; omega, fun _ => ⟨?_, k.1, k.2, by dsimp only; omega⟩⟩
    unfold t_rel at hr
    rcases hr with q | q | q | q | q | q
    · omega
    · omega
    · omega
    · exact q.2.2.1
    · omega
    · omega

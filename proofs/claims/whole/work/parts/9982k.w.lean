/-! THE CLASS'S PROPS AND TYPES are the spec's -/
/-- where MANY is told: at the index itself, or at the call -/
def mC (ma cp : Int) : Prop := (ma = -1 ∧ cp < 0) ∨ (0 ≤ cp ∧ ma = cp)
theorem mC_pl {ma cp a : Int} (h : mC ma cp) : (if ma = -1 then a else ma) = if 0 ≤ cp then cp else a := by
  rcases h with ⟨h1, h2⟩ | ⟨h1, h2⟩
  · rw [if_pos h1, if_neg (by omega)]
  · rw [if_neg (by omega), if_pos h1, h2]
theorem c_rp_k {M : Nat → Int → Int} {G : List c_g} {E : k_E} {ma cp : Int} (hg : gE G E) (hm : mC ma cp) : ∀ {L : List z_p} {p : Int}, psR M p L → (∀ x ∈ L, z_pk x) → c_rp G ma L = k_rp M E 0 cp p L.length
  | [], _, _, _ => rfl
  | x :: l, p, ⟨⟨h2, h3, h4⟩, h5⟩, hk => by
    obtain ⟨⟨v1, v2⟩, ⟨v3, v4⟩, v5, v6, v7, v8⟩ := hk x (List.mem_cons_self ..)
    show k_b (c_xh G (if ma = -1 then z_pl x.2.2.1 else ma) x.2.2.1) _ = k_b (k_xx M E 0 cp (M 110 p)) _
    rw [c_xh_k (x := M 110 p) (cp := cp) hg h2 v1 (by rw [mC_pl hm, v5])]
    congr 1
    funext a
    rw [c_xh_k (x := M 112 p) (cp := cp) hg h4 v3 (by rw [mC_pl hm, v6])]
    congr 1
    funext b
    rw [c_rp_k hg hm h5 (fun u hu => hk u (List.mem_cons_of_mem _ hu)), h3]
theorem c_rp_i {M : Nat → Int → Int} {G : List c_g} {E : k_E} {ma cp iw ic : Int} {xi : Nat} (hg : gE G E) (hi : w_w iw ic) (hm : mC ma cp) : ∀ {L : List z_p} {p : Int}, psR M p L → (∀ x ∈ L, z_pk x) → c_rp ((iw, xi, 0, k_0, 1) :: G) ma L = k_rp M E ic cp p L.length
  | [], _, _, _ => rfl
  | x :: l, p, ⟨⟨h2, h3, h4⟩, h5⟩, hk => by
    obtain ⟨⟨v1, v2⟩, ⟨v3, v4⟩, v5, v6, v7, v8⟩ := hk x (List.mem_cons_self ..)
    show k_b (c_xh ((iw, xi, 0, k_0, 1) :: G) (if ma = -1 then z_pl x.2.2.1 else ma) x.2.2.1) _ = k_b (k_xx M E ic cp (M 110 p)) _
    rw [c_xh_i (x := M 110 p) (cp := cp) hg hi h2 v1 (by rw [mC_pl hm, v5])]
    congr 1
    funext a
    rw [c_xh_i (x := M 112 p) (cp := cp) hg hi h4 v3 (by rw [mC_pl hm, v6])]
    congr 1
    funext b
    rw [c_rp_i hg hi hm h5 (fun u hu => hk u (List.mem_cons_of_mem _ hu)), h3]
/-- a type in the reference's tables -/
def tyV (M : Nat → Int → Int) (t : Int) (x : z_T) : Prop := M 113 t = x.1 ∧ (x.1 = 1 ∨ x.1 = 3 → ixR M (M 114 t) x.2.2.1.1 x.2.2.1.2) ∧ (x.1 = 2 → M 115 t = x.2.2.2.1.2 ∧ psR M (M 116 t) x.2.2.2.2) ∧ M 117 t = x.2.2.2.2.length
theorem psQ_V {M M' : Nat → Int → Int} (h : ∀ x, x ≠ 81 → M' x = M x) : ∀ {L : List z_p} {p : Int}, psQ M p L → psR M' p L
  | [], _, _ => trivial
  | x :: l, p, ⟨⟨_, h2, h3, h4⟩, h5⟩ => ⟨⟨by rw [h 110 (by decide)]; exact ixR_fr h2.1 (fun y _ _ => by rw [h y (by omega)]) (fun y i _ _ _ _ => by rw [h y (by omega)]), by rw [h 111 (by decide)]; exact h3, by rw [h 112 (by decide)]; exact ixR_fr h4.1 (fun y _ _ => by rw [h y (by omega)]) (fun y i _ _ _ _ => by rw [h y (by omega)])⟩, psQ_V h h5⟩
theorem tyQ_V {M M' : Nat → Int → Int} (h : ∀ x, x ≠ 81 → M' x = M x) {t : Int} {x : z_T} (q : tyQ M t x) : tyV M' t x := by
  obtain ⟨h1, h2, h3, h4, h5, h6⟩ := q
  refine ⟨by rw [h 113 (by decide)]; exact h2, fun q => ?_, fun q => ⟨by rw [h 115 (by decide)]; exact (h5 q).1, by rw [h 116 (by decide)]; exact psQ_V h (h5 q).2⟩, by rw [h 117 (by decide)]; exact h6⟩
  rw [h 114 (by decide)]
  exact ixR_fr (h4 q).1 (fun y _ _ => by rw [h y (by omega)]) (fun y i _ _ _ _ => by rw [h y (by omega)])
theorem c_rs_k {M : Nat → Int → Int} {G : List c_g} {E : k_E} {ma cp t : Int} {x : z_T} (hg : gE G E) (hm : mC ma cp) (ht : tyV M t x) (hk : z_Tk x) : c_rs G ma x = k_rs M E cp t := by
  obtain ⟨h2, h4, h5, h6⟩ := ht
  unfold c_rs k_rs
  rw [h2]
  by_cases q : x.1 = 1 ∨ x.1 = 3
  · rw [if_pos q, if_pos q, c_xh_k (x := M 114 t) (cp := cp) hg (h4 q) (hk.1 q).1.1 (by rw [mC_pl hm, (hk.1 q).2])]
  · rw [if_neg q, if_neg q]
    by_cases q2 : x.1 = 2
    · obtain ⟨k1, k2, k3, k4⟩ := hk.2 q2
      rw [if_pos q2, if_pos q2, (h5 q2).1, c_rp_i hg k1 hm (h5 q2).2 k2, h6, show ((x.2.2.2.2.length : Nat) : Int).toNat = x.2.2.2.2.length by omega]
    · rw [if_neg q2, if_neg q2]
/-- names behind those that are found do not matter -/
def lF (G : List c_g) (L : List z_t) : Prop := ∀ t ∈ L, t.2.1 = 0 ∨ g_fd t.2.1 G ≠ none
theorem c_xh_app {G G' : List c_g} {L : List z_t} {pl : Int} (h : lF G L) : c_xh (G ++ G') pl L = c_xh G pl L := by
  unfold c_xh
  rw [c_x_app h]
theorem c_rp_app {G G' : List c_g} {ma : Int} : ∀ {L : List z_p}, (∀ x ∈ L, lF G x.2.2.1 ∧ lF G x.2.2.2.1) → c_rp (G ++ G') ma L = c_rp G ma L
  | [], _ => rfl
  | x :: l, h => by
    have hx := h x (List.mem_cons_self ..)
    show k_b (c_xh (G ++ G') _ x.2.2.1) _ = k_b (c_xh G _ x.2.2.1) _
    rw [c_xh_app hx.1]
    congr 1
    funext a
    rw [c_xh_app hx.2]
    congr 1
    funext b
    rw [c_rp_app (fun u hu => h u (List.mem_cons_of_mem _ hu))]
def tF (G : List c_g) (x : z_T) : Prop := (x.1 = 1 ∨ x.1 = 3 → lF G x.2.2.1.2) ∧ (x.1 = 2 → ∀ y ∈ x.2.2.2.2, lF ((x.2.2.2.1.1, 0, 0, k_0, 1) :: G) y.2.2.1 ∧ lF ((x.2.2.2.1.1, 0, 0, k_0, 1) :: G) y.2.2.2.1)
theorem c_rs_app {G G' : List c_g} {ma : Int} {x : z_T} (h : tF G x) : c_rs (G ++ G') ma x = c_rs G ma x := by
  unfold c_rs
  by_cases q : x.1 = 1 ∨ x.1 = 3
  · rw [if_pos q, if_pos q, c_xh_app (h.1 q)]
  · rw [if_neg q, if_neg q]
    by_cases q2 : x.1 = 2
    · rw [if_pos q2, if_pos q2, ← List.cons_append, c_rp_app (h.2 q2)]
    · rw [if_neg q2, if_neg q2]
/-- what was worked out once found all its names -/
theorem k_ix_F {E : k_E} {iw : Int} : ∀ {L : List (Int × Int × Int)} {h : Int → Int} {z : Int} {y : (Int → Int) × Int}, k_ix E iw L h z = .inr y → ∀ t ∈ L, t.2.1 = 0 ∨ t.2.1 = iw ∨ k_fd t.2.1 E ≠ none
  | [], _, _, _, _, t, ht => by cases ht
  | u :: l, h, z, y, hs, t, ht => by
    have hs' : (if u.2.1 = 0 then k_ix E iw l (k_p h (k_n 1) u.1) z else if u.2.1 = iw then k_ix E iw l h (z + u.1) else match k_fd u.2.1 E with
      | none => .inl (-5, u.2.2)
      | some x => if x.1 = 2 then .inl (-6, u.2.2) else k_ix E iw l (k_p h x.2 u.1) z) = Sum.inr y := hs
    by_cases h0 : u.2.1 = 0
    · rw [if_pos h0] at hs'
      rcases List.mem_cons.mp ht with rfl | ht
      · exact .inl h0
      · exact k_ix_F hs' t ht
    · rw [if_neg h0] at hs'
      by_cases h1 : u.2.1 = iw
      · rw [if_pos h1] at hs'
        rcases List.mem_cons.mp ht with rfl | ht
        · exact .inr (.inl h1)
        · exact k_ix_F hs' t ht
      · rw [if_neg h1] at hs'
        rcases hf : k_fd u.2.1 E with _ | x
        · rw [hf] at hs'; cases hs'
        · rw [hf] at hs'
          have hs2 : (if x.1 = 2 then Sum.inl (-6, u.2.2) else k_ix E iw l (k_p h x.2 u.1) z) = Sum.inr y := hs'
          by_cases h2 : x.1 = 2
          · rw [if_pos h2] at hs2; cases hs2
          · rw [if_neg h2] at hs2
            rcases List.mem_cons.mp ht with rfl | ht
            · exact .inr (.inr (by rw [hf]; simp))
            · exact k_ix_F hs2 t ht

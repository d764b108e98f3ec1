/-! THE CLASS'S INDEXES are the spec's -/
def k_t3 (t : z_t) : Int × Int × Int := (t.1, t.2.2.1, t.2.2.2.1)
theorem tmR_tl {M : Nat → Int → Int} : ∀ {l : List z_t} {a : Int}, tmR M a l → k_tl M a l.length = l.map k_t3
  | [], _, _ => rfl
  | t :: l, a, ⟨h1, h2, h3, h4⟩ => by
    show (M 104 a, M 105 a, M 106 a) :: k_tl M (a + 1) l.length = k_t3 t :: l.map k_t3
    rw [tmR_tl h4, h1, h2, h3]
    rfl
/-- names of both sides -/
def gE : List c_g → k_E → Prop
  | [], [] => True
  | g :: G, x :: E => (w_w g.1 x.1 ∧ (g.2.2.1 = 1 ↔ x.2.1 = 2) ∧ g.2.2.2.1 = x.2.2 ∧ g.2.2.2.2 = 0) ∧ gE G E
  | [], _ :: _ => False
  | _ :: _, [] => False
theorem gE_len : ∀ {G : List c_g} {E : k_E}, gE G E → G.length = E.length
  | [], [], _ => rfl
  | _ :: _, _ :: _, ⟨_, h⟩ => by rw [List.length_cons, List.length_cons, gE_len h]
theorem gE_fd {w v : Int} (hw : w_w w v) : ∀ {G : List c_g} {E : k_E}, gE G E → (g_fd w G = none ∧ k_fd v E = none) ∨ ∃ g x, g_fd w G = some g ∧ k_fd v E = some x ∧ (g.2.2.1 = 1 ↔ x.1 = 2) ∧ g.2.2.2.1 = x.2 ∧ g.2.2.2.2 = 0
  | [], [], _ => .inl ⟨rfl, rfl⟩
  | g :: G, x :: E, ⟨⟨h1, h2, h3, h4⟩, h5⟩ => by
    unfold g_fd k_fd
    by_cases hq : g.1 = w
    · have hq2 : x.1 = v := (w_w_eq h1 hw).mp hq
      rw [if_pos hq, if_pos hq2]
      exact .inr ⟨g, x.2, rfl, rfl, h2, h3, h4⟩
    · have hq2 : ¬ x.1 = v := fun z => hq ((w_w_eq h1 hw).mpr z)
      rw [if_neg hq, if_neg hq2]
      exact gE_fd hw h5
theorem k_p_0 {h : Int → Int} {f : Int} : k_p h k_0 f = h := by
  funext k
  show h k + f * 0 = h k
  omega
/-- without an i -/
theorem c_x_k {G : List c_g} {E : k_E} (hg : gE G E) : ∀ {L : List z_t} {h : Int → Int} {z : Int}, (∀ t ∈ L, z_tk t) → c_x G L h z = k_ix E 0 (L.map k_t3) h z
  | [], _, _, _ => rfl
  | t :: l, h, z, hk => by
    have ht := (hk t (List.mem_cons_self ..)).2
    have ih := fun (h : Int → Int) (z : Int) => c_x_k hg (L := l) (h := h) (z := z) (fun u hu => hk u (List.mem_cons_of_mem _ hu))
    show (if t.2.1 = 0 then _ else _) = (if t.2.2.1 = 0 then _ else if t.2.2.1 = 0 then _ else _)
    rcases ht with ⟨e1, e2, -⟩ | hw
    · rw [if_pos e1, if_pos e2]
      exact ih _ _
    · have hp := w_w_pos hw
      rw [if_neg (by omega), if_neg (by omega), if_neg (by omega)]
      show (match g_fd t.2.1 G with
        | none => _
        | some g => _) = match k_fd t.2.2.1 E with
        | none => _
        | some x => _
      rcases gE_fd hw hg with ⟨a, b⟩ | ⟨g, x, a, b, c1, c2, c3⟩
      · rw [a, b]
        rfl
      · rw [a, b]
        show (if g.2.2.1 = 1 then _ else _) = if x.1 = 2 then _ else _
        by_cases hx : x.1 = 2
        · rw [if_pos (c1.mpr hx), if_pos hx]
          rfl
        · rw [if_neg (fun q => hx (c1.mp q)), if_neg hx, c2, c3, show z + t.1 * 0 = z by omega]
          exact ih _ _
/-- with an i, whose expression is bound last -/
theorem c_x_i {G : List c_g} {E : k_E} {iw ic : Int} {xi : Nat} (hg : gE G E) (hi : w_w iw ic) : ∀ {L : List z_t} {h : Int → Int} {z : Int}, (∀ t ∈ L, z_tk t) → c_x ((iw, xi, 0, k_0, 1) :: G) L h z = k_ix E ic (L.map k_t3) h z
  | [], _, _, _ => rfl
  | t :: l, h, z, hk => by
    have ht := (hk t (List.mem_cons_self ..)).2
    have ih := fun (h : Int → Int) (z : Int) => c_x_i (xi := xi) hg hi (L := l) (h := h) (z := z) (fun u hu => hk u (List.mem_cons_of_mem _ hu))
    show (if t.2.1 = 0 then _ else _) = (if t.2.2.1 = 0 then _ else if t.2.2.1 = ic then _ else _)
    rcases ht with ⟨e1, e2, -⟩ | hw
    · rw [if_pos e1, if_pos e2]
      exact ih _ _
    · have hp := w_w_pos hw
      rw [if_neg (by omega), if_neg (by omega)]
      by_cases hq : t.2.2.1 = ic
      · have hq2 : iw = t.2.1 := ((w_w_eq hw hi).mpr hq).symm
        rw [if_pos hq]
        show (match (if iw = t.2.1 then some (iw, xi, 0, k_0, 1) else g_fd t.2.1 G) with
          | none => _
          | some g => _) = _
        rw [if_pos hq2]
        show (if (0 : Int) = 1 then _ else c_x _ l (k_p h k_0 t.1) (z + t.1 * 1)) = _
        rw [if_neg (by decide), k_p_0, show z + t.1 * 1 = z + t.1 by omega]
        exact ih _ _
      · have hq2 : ¬ iw = t.2.1 := fun q => hq ((w_w_eq hw hi).mp q.symm)
        rw [if_neg hq]
        show (match (if iw = t.2.1 then some (iw, xi, 0, k_0, 1) else g_fd t.2.1 G) with
          | none => _
          | some g => _) = match k_fd t.2.2.1 E with
          | none => _
          | some x => _
        rw [if_neg hq2]
        rcases gE_fd hw hg with ⟨a, b⟩ | ⟨g, x, a, b, c1, c2, c3⟩
        · rw [a, b]
          rfl
        · rw [a, b]
          show (if g.2.2.1 = 1 then _ else _) = if x.1 = 2 then _ else _
          by_cases hx : x.1 = 2
          · rw [if_pos (c1.mpr hx), if_pos hx]
            rfl
          · rw [if_neg (fun q => hx (c1.mp q)), if_neg hx, c2, c3, show z + t.1 * 0 = z by omega]
            exact ih _ _
/-- names of the caller behind those of the called do not matter -/
theorem g_fd_app {w : Int} {G G' : List c_g} : ∀ (_ : g_fd w G ≠ none), g_fd w (G ++ G') = g_fd w G := by
  induction G with
  | nil => intro h; exact absurd rfl h
  | cons g G ih =>
    intro h
    show (if g.1 = w then some g else g_fd w (G ++ G')) = if g.1 = w then some g else g_fd w G
    by_cases hq : g.1 = w
    · rw [if_pos hq, if_pos hq]
    · rw [if_neg hq, if_neg hq]
      refine ih (fun q => h ?_)
      show (if g.1 = w then some g else g_fd w G) = none
      rw [if_neg hq, q]
theorem c_x_app {G G' : List c_g} : ∀ {L : List z_t} {h : Int → Int} {z : Int}, (∀ t ∈ L, t.2.1 = 0 ∨ g_fd t.2.1 G ≠ none) → c_x (G ++ G') L h z = c_x G L h z
  | [], _, _, _ => rfl
  | t :: l, h, z, hk => by
    have ih := fun (h : Int → Int) (z : Int) => c_x_app (G := G) (G' := G') (L := l) (h := h) (z := z) (fun u hu => hk u (List.mem_cons_of_mem _ hu))
    show (if t.2.1 = 0 then _ else _) = (if t.2.1 = 0 then _ else _)
    by_cases h0 : t.2.1 = 0
    · rw [if_pos h0, if_pos h0]
      exact ih _ _
    · rw [if_neg h0, if_neg h0]
      have hf := (hk t (List.mem_cons_self ..)).resolve_left h0
      rw [g_fd_app hf]
      rcases hg : g_fd t.2.1 G with _ | g
      · exact absurd hg hf
      · show (if g.2.2.1 = 1 then _ else _) = (if g.2.2.1 = 1 then _ else _)
        by_cases h1 : g.2.2.1 = 1
        · rw [if_pos h1, if_pos h1]
        · rw [if_neg h1, if_neg h1]
          exact ih _ _
/-- an index of both sides -/
theorem c_xh_k {M : Nat → Int → Int} {G : List c_g} {E : k_E} {L : List z_t} {x a pl cp : Int} (hg : gE G E) (hL : ixR M x a L) (hk : ∀ t ∈ L, z_tk t) (hpl : pl = if 0 ≤ cp then cp else a) : c_xh G pl L = k_xx M E 0 cp x := by
  obtain ⟨h1, h2, h3⟩ := hL
  unfold c_xh k_xx k_ih
  rw [h1, h2, show ((L.length : Nat) : Int).toNat = L.length by omega, tmR_tl h3, c_x_k hg hk, hpl]
theorem c_xh_i {M : Nat → Int → Int} {G : List c_g} {E : k_E} {L : List z_t} {x a pl cp iw ic : Int} {xi : Nat} (hg : gE G E) (hi : w_w iw ic) (hL : ixR M x a L) (hk : ∀ t ∈ L, z_tk t) (hpl : pl = if 0 ≤ cp then cp else a) : c_xh ((iw, xi, 0, k_0, 1) :: G) pl L = k_xx M E ic cp x := by
  obtain ⟨h1, h2, h3⟩ := hL
  unfold c_xh k_xx k_ih
  rw [h1, h2, show ((L.length : Nat) : Int).toNat = L.length by omega, tmR_tl h3, c_x_i hg hi hk, hpl]

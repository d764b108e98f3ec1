/-! CALLS: that reading and asking may take turns -/
/-- the same names, rows at the same places -/
def eS : k_E → k_E → Prop
  | [], [] => True
  | x :: l, y :: l' => x.1 = y.1 ∧ (x.2.1 = 2 ↔ y.2.1 = 2) ∧ eS l l'
  | [], _ :: _ => False
  | _ :: _, [] => False
theorem k_fd_S {w : Int} : ∀ {E E' : k_E}, eS E E' → (k_fd w E = none ∧ k_fd w E' = none) ∨ ∃ x y, k_fd w E = some x ∧ k_fd w E' = some y ∧ (x.1 = 2 ↔ y.1 = 2)
  | [], [], _ => .inl ⟨rfl, rfl⟩
  | [], _ :: _, h => h.elim
  | _ :: _, [], h => h.elim
  | x :: l, y :: l', h => by
    obtain ⟨h1, h2, h3⟩ := h
    unfold k_fd
    by_cases hw : x.1 = w
    · rw [if_pos hw, if_pos (h1 ▸ hw)]
      exact .inr ⟨x.2, y.2, rfl, rfl, h2⟩
    · rw [if_neg hw, if_neg (h1 ▸ hw)]
      exact k_fd_S h3
theorem k_ix_S {iw : Int} {E E' : k_E} (hs : eS E E') : ∀ {L : List (Int × Int × Int)} {h h' : Int → Int} {z z' : Int} {y : (Int → Int) × Int}, k_ix E iw L h z = .inr y → ∃ y', k_ix E' iw L h' z' = .inr y'
  | [], _, _, _, _, _, _ => ⟨_, rfl⟩
  | t :: l, h, h', z, z', y, q => by
    unfold k_ix at q ⊢
    by_cases h1 : t.2.1 = 0
    · rw [if_pos h1] at q ⊢
      exact k_ix_S hs q
    · rw [if_neg h1] at q ⊢
      by_cases h2 : t.2.1 = iw
      · rw [if_pos h2] at q ⊢
        exact k_ix_S hs q
      · rw [if_neg h2] at q ⊢
        rcases k_fd_S (w := t.2.1) hs with ⟨a1, a2⟩ | ⟨u, v, a1, a2, a3⟩
        · rw [a1] at q
          cases q
        · rw [a1] at q
          rw [a2]
          have q : (if u.1 = 2 then .inl (-6, t.2.2) else k_ix E iw l (k_p h u.2 t.1) z) = (.inr y : k_o ((Int → Int) × Int)) := q
          show ∃ y', (if v.1 = 2 then .inl (-6, t.2.2) else k_ix E' iw l (k_p h' v.2 t.1) z') = (.inr y' : k_o ((Int → Int) × Int))
          by_cases h3 : u.1 = 2
          · rw [if_pos h3] at q
            cases q
          · rw [if_neg h3] at q
            rw [if_neg (fun hv => h3 (a3.mpr hv))]
            exact k_ix_S hs q
theorem k_xx_S {M : Nat → Int → Int} {iw cp cp0 x : Int} {E E' : k_E} (hs : eS E E') (hc : 0 ≤ cp) {y : (Int → Int) × Int} (h : k_xx M E iw cp0 x = .inr y) : (∃ y', k_xx M E' iw cp x = .inr y') ∨ k_xx M E' iw cp x = .inl (-8, cp) := by
  unfold k_xx k_ih at h ⊢
  obtain ⟨u, h1, _⟩ := k_b_inv h
  obtain ⟨v, h2⟩ := k_ix_S (h' := k_0) (z' := 0) hs h1
  rw [h2, k_b_r, if_pos hc]
  by_cases hi : k_in 1000000 v.1 v.2
  · exact .inl ⟨v, k_if_t hi⟩
  · exact .inr (k_if_f hi)
theorem k_rp_S {M : Nat → Int → Int} {iw cp cp0 : Int} {E E' : k_E} (hs : eS E E') (hc : 0 ≤ cp) : ∀ {n : Nat} {p : Int} {ps : List (Int × (Int → Int) × Int)}, k_rp M E iw cp0 p n = .inr ps → (∃ ps', k_rp M E' iw cp p n = .inr ps') ∨ k_rp M E' iw cp p n = .inl (-8, cp)
  | 0, _, _, _ => .inl ⟨_, rfl⟩
  | n + 1, p, ps, h => by
    obtain ⟨a, h1, h2⟩ := k_b_inv (show k_b (k_xx M E iw cp0 (M 110 p)) (fun a => k_b (k_xx M E iw cp0 (M 112 p)) (fun b => k_b (k_rp M E iw cp0 (p + 1) n) (fun l => .inr ((M 111 p, k_p b.1 a.1 (-1), b.2 - a.2) :: l)))) = .inr ps from h)
    obtain ⟨b, h3, h4⟩ := k_b_inv h2
    obtain ⟨l, h5, h6⟩ := k_b_inv h4
    have sp : k_rp M E' iw cp p (n + 1) = k_b (k_xx M E' iw cp (M 110 p)) (fun a => k_b (k_xx M E' iw cp (M 112 p)) (fun b => k_b (k_rp M E' iw cp (p + 1) n) (fun l => .inr ((M 111 p, k_p b.1 a.1 (-1), b.2 - a.2) :: l)))) := rfl
    rw [sp]
    rcases k_xx_S hs hc h1 with ⟨a', g1⟩ | g1
    · rw [g1, k_b_r]
      rcases k_xx_S hs hc h3 with ⟨b', g2⟩ | g2
      · rw [g2, k_b_r]
        rcases k_rp_S hs hc h5 with ⟨l', g3⟩ | g3
        · rw [g3]
          exact .inl ⟨_, rfl⟩
        · rw [g3]
          exact .inr rfl
      · rw [g2]
        exact .inr rfl
    · rw [g1]
      exact .inr rfl
theorem k_rs_S {M : Nat → Int → Int} {cp cp0 t : Int} {E E' : k_E} (hs : eS E E') (hc : 0 ≤ cp) {th : k_h} (h : k_rs M E cp0 t = .inr th) : (∃ th', k_rs M E' cp t = .inr th') ∨ k_rs M E' cp t = .inl (-8, cp) := by
  unfold k_rs at h ⊢
  by_cases h1 : M 113 t = 1 ∨ M 113 t = 3
  · rw [if_pos h1] at h ⊢
    obtain ⟨y, h2, _⟩ := k_b_inv h
    rcases k_xx_S hs hc h2 with ⟨y', g⟩ | g
    · rw [g]
      exact .inl ⟨_, rfl⟩
    · rw [g]
      exact .inr rfl
  · rw [if_neg h1] at h ⊢
    by_cases h2 : M 113 t = 2
    · rw [if_pos h2] at h ⊢
      obtain ⟨y, h3, _⟩ := k_b_inv h
      rcases k_rp_S hs hc h3 with ⟨y', g⟩ | g
      · rw [g]
        exact .inl ⟨_, rfl⟩
      · rw [g]
        exact .inr rfl
    · rw [if_neg h2]
      exact .inl ⟨_, rfl⟩
theorem k_af_8 {pl : Int} {h : Int → Int} {s : k_s} {z : Int × Int} (q : k_af pl h s = .inl z) : z = (-8, pl) := by
  unfold k_af at q
  split at q
  · cases q; rfl
  · cases q
theorem k_ag_8 {f pl so : Int} {h : Int → Int} {s : k_s} {z : Int × Int} (q : k_ag f pl so h s = .inl z) : z = (-8, pl) := by
  unfold k_ag at q
  split at q
  · cases q; rfl
  · cases q
theorem k_nv_8 {pl : Int} {s : k_s} {z : Int × Int} (q : k_nv pl s = .inl z) : z = (-8, pl) := by
  unfold k_nv at q
  split at q
  · cases q; rfl
  · cases q
theorem k_adds_8 {cp : Int} {ad : (Int → Int) → k_s → k_o k_s} (had : ∀ h s z, ad h s = .inl z → z = (-8, cp)) : ∀ {l : List (Int → Int)} {s : k_s} {z : Int × Int}, k_adds ad l s = .inl z → z = (-8, cp)
  | [], _, _, h => by cases h
  | x :: l, s, z, h => by
    rcases k_b_inl (show k_b (ad x s) (k_adds ad l) = .inl z from h) with h1 | ⟨a, _, h2⟩
    · exact had _ _ _ h1
    · exact k_adds_8 had h2
theorem k_ip_bad {M : Nat → Int → Int} {E : k_E} {iw cp : Int} {hv : Int → Int} {ad : (Int → Int) → k_s → k_o k_s} (had : ∀ h s z, ad h s = .inl z → z = (-8, cp)) : ∀ {n : Nat} {p : Int} {s : k_s}, k_rp M E iw cp p n = .inl (-8, cp) → k_ip M E iw cp hv ad p n s = .inl (-8, cp)
  | 0, _, _, h => by cases h
  | n + 1, p, s, h => by
    have sp : k_ip M E iw cp hv ad p (n + 1) s = k_b (k_xx M E iw cp (M 110 p)) (fun a => k_b (k_xx M E iw cp (M 112 p)) (fun b => k_b (k_adds ad (k_pd (M 111 p) (k_p (k_p b.1 a.1 (-1)) hv (b.2 - a.2))) s) (k_ip M E iw cp hv ad (p + 1) n))) := rfl
    rw [sp]
    rcases k_b_inl (show k_b (k_xx M E iw cp (M 110 p)) (fun a => k_b (k_xx M E iw cp (M 112 p)) (fun b => k_b (k_rp M E iw cp (p + 1) n) (fun l => .inr ((M 111 p, k_p b.1 a.1 (-1), b.2 - a.2) :: l)))) = .inl (-8, cp) from h) with h1 | ⟨a, h1, h2⟩
    · rw [h1]; rfl
    · rw [h1, k_b_r]
      rcases k_b_inl h2 with h3 | ⟨b, h3, h4⟩
      · rw [h3]; rfl
      · rw [h3, k_b_r]
        rcases k_b_inl h4 with h5 | ⟨l, _, h6⟩
        · rcases h7 : k_adds ad (k_pd (M 111 p) (k_p (k_p b.1 a.1 (-1)) hv (b.2 - a.2))) s with z | s1
          · rw [k_adds_8 had h7]; rfl
          · exact k_ip_bad had h5
        · cases h6
theorem k_gt_bad {M : Nat → Int → Int} {E : k_E} {cp t f so : Int} {h : Int → Int} {s : k_s} (q : k_rs M E cp t = .inl (-8, cp)) : k_gt M E cp t h f cp so s = .inl (-8, cp) := by
  unfold k_rs at q
  unfold k_gt
  by_cases h1 : M 113 t = 1 ∨ M 113 t = 3
  · rw [if_pos h1] at q ⊢
    rcases k_b_inl q with h2 | ⟨y, _, h3⟩
    · rw [h2]; rfl
    · cases h3
  · rw [if_neg h1] at q ⊢
    by_cases h2 : M 113 t = 2
    · rw [if_pos h2] at q ⊢
      rcases k_b_inl q with h3 | ⟨y, _, h4⟩
      · exact k_ip_bad (fun _ _ _ hz => k_ag_8 hz) h3
      · cases h4
    · rw [if_neg h2] at q
      cases q
theorem k_hv_bad {M : Nat → Int → Int} {E : k_E} {cp t : Int} {s : k_s} (hv : vt M t) (q : k_rs M E cp t = .inl (-8, cp)) : k_hv M E cp t cp s = .inl (-8, cp) := by
  have hv2 := hv.2.1
  unfold k_rs at q
  unfold k_hv
  by_cases h1 : M 113 t = 1 ∨ M 113 t = 3
  · rw [if_pos h1] at q
    rw [if_neg (by omega)]
    rcases k_b_inl q with h2 | ⟨y, _, h3⟩
    · rw [h2]
      by_cases h4 : M 113 t = 1
      · rw [if_pos h4]; rfl
      · rw [if_neg h4, if_neg (by omega)]; rfl
    · cases h3
  · rw [if_neg h1] at q
    by_cases h2 : M 113 t = 2
    · rw [if_pos h2] at q
      rw [if_neg (by omega), if_neg (by omega), if_pos h2]
      rcases k_b_inl q with h3 | ⟨y, _, h4⟩
      · rcases h5 : k_nv cp s with z | z
        · rw [k_nv_8 h5]; rfl
        · rw [k_b_r, k_ip_bad (fun _ _ _ hz => k_af_8 hz) h3]; rfl
      · cases h4
    · rw [if_neg h2] at q
      cases q
/-- what is given must be of its type, as the reference asks it -/
noncomputable def k_cgr (M : Nat → Int → Int) (f pl : Int) : Int → List (Int × (Int → Int)) → k_E → k_s → k_o (k_E × k_s)
  | _, [], E, s => .inr (E, s)
  | b, x :: l, E, s => k_b (k_gt M E pl (M 92 b) x.2 f pl 3 s) (fun s1 => k_cgr M f pl (b + 1) l ((M 91 b, 1 + x.1, x.2) :: E) s1)
noncomputable def k_clr (M : Nat → Int → Int) (f g pl : Int) (is : List (Int → Int)) (vs : List (Int × (Int → Int))) (s : k_s) : k_o k_v :=
  k_b (k_ip M (k_en M (4 * g) is []) 0 pl k_0 (k_ag f pl 2) (M 89 g) (M 90 g).toNat s) (fun s1 => k_b (k_cgr M f pl (5 * g) vs (k_en M (4 * g) is []) s1) (fun y => k_hv M y.1 pl (M 94 g) pl y.2))
/-- values of the kinds that are asked for -/
def vk (M : Nat → Int → Int) : Int → List (Int × (Int → Int)) → Prop
  | _, [] => True
  | b, x :: l => (x.1 = 0 ∨ x.1 = 1) ∧ (x.1 = 1 ↔ M 113 (M 92 b) = 3) ∧ vt M (M 92 b) ∧ vk M (b + 1) l
theorem k_gv_k {t : k_h} {pl : Int} {s : k_s} {y : k_v} (h : k_gv t pl s = .inr y) : y.2.1 = 1 ↔ t.1 = 3 := by
  unfold k_gv at h
  split at h
  · rename_i h1
    cases h
    exact ⟨fun q => absurd (show (0 : Int) = 1 from q) (by decide), fun q => by omega⟩
  · split at h
    · rename_i h3
      obtain ⟨a, _, h2⟩ := k_b_inv h
      cases h2
      exact ⟨fun _ => h3, fun _ => rfl⟩
    · rename_i h3
      obtain ⟨a, _, h2⟩ := k_b_inv h
      try dsimp only at h2
      split at h2
      · obtain ⟨b, _, h4⟩ := k_b_inv h2
        cases h4
        exact ⟨fun q => absurd (show (0 : Int) = 1 from q) (by decide), fun q => absurd q h3⟩
      · cases h2
        exact ⟨fun q => absurd (show (0 : Int) = 1 from q) (by decide), fun q => absurd q h3⟩
theorem k_cg_r {M : Nat → Int → Int} {f pl : Int} (hpl : 0 ≤ pl) : ∀ {vs : List (Int × (Int → Int))} {n : Nat} {b : Int} {E E' : k_E} {s s' : k_s} {y : k_E × k_s}, k_hp M b n E s = .inr y → vs.length = n → eS E E' → vk M b vs → k_cgr M f pl b vs E' s' = k_cg M f pl b vs E' s' ∧ ∀ y', k_cg M f pl b vs E' s' = .inr y' → eS y.1 y'.1
  | [], n, b, E, E', s, s', y, hp, hl, hs, _ => by
    have hn : n = 0 := hl.symm
    subst hn
    cases hp
    refine ⟨rfl, fun y' hy => ?_⟩
    cases hy
    exact hs
  | x :: l, 0, _, _, _, _, _, _, _, hl, _, _ => by cases hl
  | x :: l, n + 1, b, E, E', s, s', y, hp, hl, hs, hk => by
    obtain ⟨k1, k2, k3, k4⟩ := hk
    obtain ⟨t, h1, h2⟩ := k_b_inv (show k_b (k_rs M E (-1) (M 92 b)) (fun t => k_b (k_gv t 0 s) (fun y => k_hp M (b + 1) n ((M 91 b, 1 + y.2.1, y.2.2) :: E) y.1)) = .inr y from hp)
    obtain ⟨z, h3, h4⟩ := k_b_inv h2
    have sp1 : k_cgr M f pl b (x :: l) E' s' = k_b (k_gt M E' pl (M 92 b) x.2 f pl 3 s') (fun s1 => k_cgr M f pl (b + 1) l ((M 91 b, 1 + x.1, x.2) :: E') s1) := rfl
    have sp2 : k_cg M f pl b (x :: l) E' s' = k_b (k_rs M E' pl (M 92 b)) (fun t => k_b (k_ags f pl 3 (k_dm t x.2) s') (fun s1 => k_cg M f pl (b + 1) l ((M 91 b, 1 + x.1, x.2) :: E') s1)) := rfl
    rw [sp1, sp2]
    rcases k_rs_S hs hpl h1 with ⟨th, g1⟩ | g1
    · have hg := (k_gt_rs (f := f) (pl := pl) (so := 3) (h := x.2) (s := s') k3 g1).1
      have hk3 := (k_gt_rs (f := f) (pl := pl) (so := 3) (h := x.2) (s := s') k3 h1).2
      rw [hg, g1, k_b_r]
      have hE : eS ((M 91 b, 1 + z.2.1, z.2.2) :: E) ((M 91 b, 1 + x.1, x.2) :: E') := ⟨rfl, by
        have := k_gv_k h3
        constructor
        · intro q
          have q : 1 + z.2.1 = 2 := q
          show 1 + x.1 = 2
          have := k2.mpr (hk3.mp (this.mp (by omega)))
          omega
        · intro q
          have q : 1 + x.1 = 2 := q
          show 1 + z.2.1 = 2
          have := this.mpr (hk3.mpr (k2.mp (by omega)))
          omega, hs⟩
      rcases h5 : k_ags f pl 3 (k_dm th x.2) s' with e | s1
      · exact ⟨rfl, fun y' hy => by cases hy⟩
      · rw [k_b_r, k_b_r]
        exact k_cg_r hpl h4 (by simpa using hl) hE k4
    · rw [k_gt_bad g1, g1]
      exact ⟨rfl, fun y' hy => by cases hy⟩
theorem eS_n {M : Nat → Int → Int} : ∀ {is : List (Int → Int)} {n : Nat} {b v : Int} {E E' : k_E}, is.length = n → eS E E' → eS (k_hn M b v n E) (k_en M b is E')
  | [], n, _, _, _, _, hl, hs => by
    have hn : n = 0 := hl.symm
    subst hn
    exact hs
  | x :: l, 0, _, _, _, _, hl, _ => by cases hl
  | x :: l, n + 1, b, v, E, E', hl, hs => by
    show eS (k_hn M (b + 1) (v + 1) n ((M 87 b, 0, k_w v) :: E)) (k_en M (b + 1) l ((M 87 b, 0, x) :: E'))
    exact eS_n (by simpa using hl) ⟨rfl, Iff.rfl, hs⟩
theorem k_cl_r {M : Nat → Int → Int} {f g pl : Int} {is : List (Int → Int)} {vs : List (Int × (Int → Int))} {s s0 : k_s} {z : k_E × k_s × k_h} (hh : k_hd M g s0 = .inr z) (hi : is.length = (M 88 g).toNat) (hv : vs.length = (M 93 g).toNat) (hk : vk M (5 * g) vs) (ht : vt M (M 94 g)) (hpl : 0 ≤ pl) : k_clr M f g pl is vs s = k_cl M f g pl is vs s := by
  unfold k_hd at hh
  obtain ⟨ps, h1, h2⟩ := k_b_inv hh
  obtain ⟨s1, _, h4⟩ := k_b_inv h2
  obtain ⟨y, h5, h6⟩ := k_b_inv h4
  obtain ⟨t, h7, _⟩ := k_b_inv h6
  have hS : eS (k_hn M (4 * g) 0 (M 88 g).toNat []) (k_en M (4 * g) is []) := eS_n hi trivial
  unfold k_clr k_cl
  rcases k_rp_S hS hpl h1 with ⟨ps', g1⟩ | g1
  · rw [k_ip_ok g1, k_adds_g, g1, k_b_r]
    congr 1
    funext s2
    obtain ⟨c1, c2⟩ := k_cg_r (f := f) (s' := s2) hpl h5 hv hS hk
    rw [c1]
    rcases h8 : k_cg M f pl (5 * g) vs (k_en M (4 * g) is []) s2 with e | y'
    · rfl
    · rw [k_b_r, k_b_r]
      rcases k_rs_S (c2 y' h8) hpl h7 with ⟨th, g2⟩ | g2
      · rw [k_hv_gv ht g2, g2, k_b_r]
      · rw [k_hv_bad ht g2, g2]
        rfl
  · rw [k_ip_bad (fun _ _ _ hz => k_ag_8 hz) g1, g1]
    rfl
theorem k_clr_neg {M : Nat → Int → Int} {f g pl c a : Int} {is : List (Int → Int)} {vs : List (Int × (Int → Int))} {s : k_s} (h : k_cl M f g pl is vs s = .inl (c, a)) : c < 0 := by
  unfold k_cl at h
  rcases k_b_inl h with h1 | ⟨ps, _, h2⟩
  · exact k_rp_neg h1
  rcases k_b_inl h2 with h3 | ⟨s1, _, h4⟩
  · exact k_ags_neg h3
  rcases k_b_inl h4 with h5 | ⟨y, _, h6⟩
  · have cg : ∀ {vs : List (Int × (Int → Int))} {b : Int} {E : k_E} {s : k_s}, k_cg M f pl b vs E s = .inl (c, a) → c < 0 := by
      intro vs
      induction vs with
      | nil => intro b E s h; cases h
      | cons x l ih =>
        intro b E s h
        rcases k_b_inl (show k_b (k_rs M E pl (M 92 b)) (fun t => k_b (k_ags f pl 3 (k_dm t x.2) s) (fun s1 => k_cg M f pl (b + 1) l ((M 91 b, 1 + x.1, x.2) :: E) s1)) = .inl (c, a) from h) with q1 | ⟨t, _, q2⟩
        · exact k_rs_neg q1
        rcases k_b_inl q2 with q3 | ⟨s2, _, q4⟩
        · exact k_ags_neg q3
        · exact ih q4
    exact cg h5
  rcases k_b_inl h6 with h7 | ⟨t, _, h8⟩
  · exact k_rs_neg h7
  · exact k_gv_neg h8

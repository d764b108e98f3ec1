/-! CALLS in the class: names of the called function are found among its own -/
theorem gE_F {G : List c_g} {E : k_E} {w v : Int} (hg : gE G E) (hw : w_w w v) (h : k_fd v E ≠ none) : g_fd w G ≠ none := by
  rcases gE_fd hw hg with ⟨_, b⟩ | ⟨g, x, a, b, _⟩
  · exact absurd b h
  · rw [a]; simp
theorem eS_F {E E' : k_E} {v : Int} (hs : eS E E') (h : k_fd v E ≠ none) : k_fd v E' ≠ none := by
  rcases k_fd_S (w := v) hs with ⟨a, _⟩ | ⟨x, y, _, b, _⟩
  · exact absurd a h
  · rw [b]; simp
/-- an index that was worked out among E finds its names among G -/
theorem lF_k {M : Nat → Int → Int} {E E' : k_E} {G : List c_g} {l : List z_t} {x a cp : Int} {y : (Int → Int) × Int} (hl : ∀ t ∈ l, z_tk t) (hx : ixR M x a l) (hs : eS E E') (hg : gE G E') (h : k_xx M E 0 cp x = .inr y) : lF G l := by
  obtain ⟨h1, h2, h3⟩ := hx
  unfold k_xx k_ih at h
  rw [h2, show ((l.length : Nat) : Int).toNat = l.length by omega, tmR_tl h3] at h
  rcases hc : k_ix E 0 (l.map k_t3) k_0 0 with u | u
  · rw [hc] at h; cases h
  · intro t ht
    have hk := hl t ht
    rcases hk.2 with ⟨q, _⟩ | q
    · exact .inl q
    · have hp := w_w_pos q
      have := k_ix_F hc (k_t3 t) (List.mem_map_of_mem ht)
      rcases this with r | r | r
      · have r : t.2.2.1 = 0 := r; omega
      · have r : t.2.2.1 = 0 := r; omega
      · exact .inr (gE_F hg q (eS_F hs r))
theorem lF_i {M : Nat → Int → Int} {E E' : k_E} {G : List c_g} {l : List z_t} {x a cp iw ic : Int} {xi : Nat} {y : (Int → Int) × Int} (hi : w_w iw ic) (hl : ∀ t ∈ l, z_tk t) (hx : ixR M x a l) (hs : eS E E') (hg : gE G E') (h : k_xx M E ic cp x = .inr y) : lF ((iw, xi, 0, k_0, 1) :: G) l := by
  obtain ⟨h1, h2, h3⟩ := hx
  unfold k_xx k_ih at h
  rw [h2, show ((l.length : Nat) : Int).toNat = l.length by omega, tmR_tl h3] at h
  rcases hc : k_ix E ic (l.map k_t3) k_0 0 with u | u
  · rw [hc] at h; cases h
  · intro t ht
    have hk := hl t ht
    rcases hk.2 with ⟨q, _⟩ | q
    · exact .inl q
    · have hp := w_w_pos q
      right
      show (if iw = t.2.1 then some (iw, xi, 0, k_0, 1) else g_fd t.2.1 G) ≠ none
      by_cases hq : iw = t.2.1
      · rw [if_pos hq]; simp
      · rw [if_neg hq]
        have := k_ix_F hc (k_t3 t) (List.mem_map_of_mem ht)
        rcases this with r | r | r
        · have r : t.2.2.1 = 0 := r; omega
        · have r : t.2.2.1 = ic := r
          exact absurd ((w_w_eq q hi).mpr r).symm hq
        · exact gE_F hg q (eS_F hs r)
theorem k_rp_h {M : Nat → Int → Int} {E : k_E} {iw cp p : Int} {n : Nat} {l : List (Int × (Int → Int) × Int)} (h : k_rp M E iw cp p (n + 1) = .inr l) : ∃ a b l', k_xx M E iw cp (M 110 p) = .inr a ∧ k_xx M E iw cp (M 112 p) = .inr b ∧ k_rp M E iw cp (p + 1) n = .inr l' := by
  have h' : k_b (k_xx M E iw cp (M 110 p)) _ = .inr l := h
  rcases h1 : k_xx M E iw cp (M 110 p) with u | a
  · rw [h1] at h'; cases h'
  · rw [h1] at h'
    have h2' : k_b (k_xx M E iw cp (M 112 p)) _ = .inr l := h'
    rcases h2 : k_xx M E iw cp (M 112 p) with u | b
    · rw [h2] at h2'; cases h2'
    · rw [h2] at h2'
      have h3' : k_b (k_rp M E iw cp (p + 1) n) _ = .inr l := h2'
      rcases h3 : k_rp M E iw cp (p + 1) n with u | l'
      · rw [h3] at h3'; cases h3'
      · exact ⟨a, b, l', rfl, rfl, rfl⟩
theorem rF_k {M : Nat → Int → Int} {E E' : k_E} {G : List c_g} {cp : Int} (hs : eS E E') (hg : gE G E') : ∀ {L : List z_p} {p : Int} {r : List (Int × (Int → Int) × Int)}, psR M p L → (∀ x ∈ L, z_pk x) → k_rp M E 0 cp p L.length = .inr r → ∀ x ∈ L, lF G x.2.2.1 ∧ lF G x.2.2.2.1
  | [], _, _, _, _, _, x, hx => by cases hx
  | u :: l, p, r, ⟨⟨h2, h3, h4⟩, h5⟩, hk, h, x, hx => by
    obtain ⟨⟨v1, v2⟩, ⟨v3, v4⟩, v5, v6, v7, v8⟩ := hk u (List.mem_cons_self ..)
    obtain ⟨a, b, l', q1, q2, q3⟩ := k_rp_h h
    rcases List.mem_cons.mp hx with rfl | hx
    · exact ⟨lF_k v1 h2 hs hg q1, lF_k v3 h4 hs hg q2⟩
    · exact rF_k hs hg h5 (fun y hy => hk y (List.mem_cons_of_mem _ hy)) q3 x hx
theorem rF_i {M : Nat → Int → Int} {E E' : k_E} {G : List c_g} {cp iw ic : Int} {xi : Nat} (hi : w_w iw ic) (hs : eS E E') (hg : gE G E') : ∀ {L : List z_p} {p : Int} {r : List (Int × (Int → Int) × Int)}, psR M p L → (∀ x ∈ L, z_pk x) → k_rp M E ic cp p L.length = .inr r → ∀ x ∈ L, lF ((iw, xi, 0, k_0, 1) :: G) x.2.2.1 ∧ lF ((iw, xi, 0, k_0, 1) :: G) x.2.2.2.1
  | [], _, _, _, _, _, x, hx => by cases hx
  | u :: l, p, r, ⟨⟨h2, h3, h4⟩, h5⟩, hk, h, x, hx => by
    obtain ⟨⟨v1, v2⟩, ⟨v3, v4⟩, v5, v6, v7, v8⟩ := hk u (List.mem_cons_self ..)
    obtain ⟨a, b, l', q1, q2, q3⟩ := k_rp_h h
    rcases List.mem_cons.mp hx with rfl | hx
    · exact ⟨lF_i hi v1 h2 hs hg q1, lF_i hi v3 h4 hs hg q2⟩
    · exact rF_i hi hs hg h5 (fun y hy => hk y (List.mem_cons_of_mem _ hy)) q3 x hx
/-- a type that was looked at among E finds its names among G -/
theorem tF_k {M : Nat → Int → Int} {E E' : k_E} {G : List c_g} {cp t : Int} {x : z_T} {th : k_h} (hs : eS E E') (hg : gE G E') (ht : tyV M t x) (hk : z_Tk x) (h : k_rs M E cp t = .inr th) : tF G x := by
  obtain ⟨h2, h4, h5, h6⟩ := ht
  unfold k_rs at h
  rw [h2] at h
  refine ⟨fun q => ?_, fun q => ?_⟩
  · rw [if_pos q] at h
    rcases h1 : k_xx M E 0 cp (M 114 t) with u | y
    · rw [h1] at h; cases h
    · exact lF_k (hk.1 q).1.1 (h4 q) hs hg h1
  · rw [if_neg (by omega), if_pos q, (h5 q).1, h6, show ((x.2.2.2.2.length : Nat) : Int).toNat = x.2.2.2.2.length by omega] at h
    rcases h1 : k_rp M E x.2.2.2.1.2 cp (M 116 t) x.2.2.2.2.length with u | l
    · rw [h1] at h; cases h
    · obtain ⟨k1, k2, k3, k4⟩ := hk.2 q
      exact rF_i k1 hs hg (h5 q).2 k2 h1
/-- what stands in the pool from base on -/
def pO (M : Nat → Int → Int) (R : Nat → Int → Option Nat) (base : Int) (l : List (Int × (Int → Int))) : Prop := ∀ (j : Nat) v, l[j]? = some v → (v.1 = 0 ∨ v.1 = 1) ∧ k_in 1000000 v.2 0 ∧ ∃ x, R 33 (base + j) = some (x + 1) ∧ eC M x v.1 v.2 0
section
variable {fs f : Nat} {tr : Nat → c_t} {t : Int} {s s' : k_s} {G : List c_g} {ρ ρ1 : Nat → Option xk} {e e1 : Nat} {R R1 : Nat → Int → Option Nat} {sl sl1 : Nat} {ow ow1 : Nat → Int} {M M1 : Nat → Int → Int} {X : Nat → Prop} {lo hi n tn st tn1 st1 : Int}
/-- one of the pool -/
theorem kPl_x (hS : wS fs tr f t s G tn st ρ e M R sl ow) {k : Int} {x : Nat} (hk : 0 ≤ k ∧ k < 300) (h : R 33 k = some (x + 1)) : c_E ρ R x ∧ (ow x = k ∧ ow (x + 1) = k) ∧ x + 2 ≤ e + 174 := by
  rcases hS.1.1.1 k hk.1 hk.2 with q | ⟨y, y1, y2, y3, y4⟩
  · rw [h] at q; cases q
  · rw [h] at y1
    cases y1
    exact ⟨y2, y3, y4⟩
theorem pO_go {base : Int} {l : List (Int × (Int → Int))} (hS : wS fs tr f t s G tn st ρ e M R sl ow) (h : pO M R base l) (hb : 0 ≤ base ∧ base + l.length ≤ tn1 ∧ tn1 ≤ 300) (hg : kG ρ e R sl ow ρ1 e1 R1 sl1 ow1) (hf : wF X ((tr f).1 + 175) lo hi n e tn1 st1 ow M R M1 R1) (hX : ∀ p, X p → ow p < base ∨ base + l.length ≤ ow p) : pO M1 R1 base l := fun j v hv => by
  obtain ⟨h1, h2, x, h3, h4⟩ := h j v hv
  have hj : j < l.length := by
    by_cases hj : j < l.length
    · exact hj
    · rw [List.getElem?_eq_none (by omega)] at hv; cases hv
  obtain ⟨x1, x2, x3⟩ := kPl_x hS (by omega) h3
  have hge := c_E_ge x1
  have k3 := hS.2.2.2.2.2.2.2.1.2.2
  obtain ⟨z1, z2, z3, z4, z5, z6⟩ := wS_T hS k3
  have net := c_T_E z1 x1
  refine ⟨h1, h2, x, hg.2.2.1 33 _ _ (by decide) (by decide) (by decide) (by omega) h3, eC_fr h4 ?_ ?_⟩
  · rw [hf.1 x ⟨by omega, by omega, fun _ => .inl (by omega)⟩ (fun q => by have := hX x q; omega) (by omega)]
  · exact hf.1 (x + 1) ⟨by omega, by omega, fun _ => .inl (by omega)⟩ (fun q => by have := hX (x + 1) q; omega) (by omega)
end
/-- names of the called function's indexes -/
def g_en : List (Int × Int) → List Nat → List (Int → Int) → List c_g → List c_g
  | w :: N, x :: xs, h :: l, G => g_en N xs l ((w.1, x, 0, h, 0) :: G)
  | _, _, _, G => G
theorem g_en_app : ∀ {N : List (Int × Int)} {xs : List Nat} {l : List (Int → Int)} {G G' : List c_g}, g_en N xs l (G ++ G') = g_en N xs l G ++ G'
  | [], _, _, _, _ => by unfold g_en; rfl
  | _ :: _, [], _, _, _ => by unfold g_en; rfl
  | _ :: _, _ :: _, [], _, _ => by unfold g_en; rfl
  | w :: N, x :: xs, h :: l, G, G' => by
    unfold g_en
    rw [← List.cons_append]
    exact g_en_app
theorem g_en_E {M : Nat → Int → Int} : ∀ {N : List (Int × Int)} {xs : List Nat} {l : List (Int → Int)} {G : List c_g} {E : k_E} {b : Int}, N.length = l.length → xs.length = l.length → nmR M 87 b N → (∀ w ∈ N, w_w w.1 w.2) → gE G E → gE (g_en N xs l G) (k_en M b l E)
  | [], xs, [], G, E, b, _, _, _, _, hg => by unfold g_en; exact hg
  | w :: N, x :: xs, h :: l, G, E, b, h1, h2, ⟨h3, h4⟩, h5, hg => by
    unfold g_en
    show gE _ (k_en M (b + 1) l ((M 87 b, 0, h) :: E))
    refine g_en_E (by simpa using h1) (by simpa using h2) h4 (fun u hu => h5 u (List.mem_cons_of_mem _ hu)) ⟨⟨?_, ?_, rfl, rfl⟩, hg⟩
    · rw [h3]; exact h5 w (List.mem_cons_self ..)
    · show (0 : Int) = 1 ↔ (0 : Int) = 2
      omega
  | [], _, _ :: _, _, _, _, h1, _, _, _, _ => by simp at h1
  | _ :: _, _, [], _, _, _, h1, _, _, _, _ => by simp at h1
  | _ :: _, [], _ :: _, _, _, _, _, h2, _, _, _ => by simp at h2

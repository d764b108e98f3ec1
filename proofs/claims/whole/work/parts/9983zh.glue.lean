/-! A FUNCTION as it was defined is such as check needs it, on both sides -/
theorem paR_V {M M' : Nat → Int → Int} (h : ∀ x, x ≠ 81 → M' x = M x) : ∀ {l : List ((Int × Int) × z_T)} {b : Int}, paR M b l → paV M' b l
  | [], _, _ => trivial
  | y :: l, b, ⟨⟨a1, a2⟩, a3⟩ => ⟨⟨by rw [h 91 (by decide)]; exact a1, by rw [h 92 (by decide)]; exact tyQ_V h a2⟩, paR_V h a3⟩
theorem nmR_V {M M' : Nat → Int → Int} {x : Nat} (h : M' x = M x) : ∀ {l : List (Int × Int)} {b : Int}, nmR M x b l → nmR M' x b l
  | [], _, _ => trivial
  | w :: l, b, ⟨a, q⟩ => ⟨by rw [h]; exact a, nmR_V h q⟩
theorem jH_of {tr : Nat → c_t} {M0 : Nat → Int → Int} {g : Nat} (hz : (tr g).2.1 1 ≤ 500) (h : fR g (mf g M0) (tr g).2.2 (tr g).2.1 ((tr g).2.1 1)) : jH tr M0 60 g := by
  obtain ⟨N, L, P, x, a1, ⟨b1, b2, b3, b4, b5, b6⟩, ⟨c1, c2, c3, c4, c5, c6⟩, ⟨d1, d2, d3, d4, d5, d6⟩, ⟨e1, e2, e3⟩, ⟨g1, ⟨tt, w, x1, x2, x3, x4, x5, x6⟩⟩, g2⟩ := h
  have e : ∀ x, x ≠ 81 → mf g M0 x = M0 x := fun x hx => mf_ne hx
  rw [e 86 (by decide)] at a1
  refine ⟨(tr g).2.1 1, N, L, P, x, tt, w, ⟨rfl, hz⟩, fun M' hM => ?_, a1, x4, x5, ⟨x1, x3⟩, ?_, fun y hy => ?_⟩
  · have e' : ∀ x, x ≠ 81 → M' x = mf g M0 x := fun x hx => by rw [hM x hx, e x hx]
    exact ⟨⟨b1, by rw [e' 88 (by decide)]; exact b2, b3, b4, nmR_V (e' 87 (by decide)) b5, b6⟩, ⟨by rw [e' 90 (by decide)]; exact c1, c2, c3, by rw [e' 89 (by decide)]; exact psQ_V e' c4, c5⟩, ⟨d1, by rw [e' 93 (by decide)]; exact d2, d3, d4, paR_V e' d5, d6⟩, e1, by rw [e' 94 (by decide)]; exact tyQ_V e' e2, e3⟩
  · rw [e 95 (by decide)] at g2
    exact g2
  · unfold e_D at hy
    exact hy.1
theorem paR_vt {M : Nat → Int → Int} {T : Int → Int} {hi : Int} (h30 : M 81 30 ≤ 4500) (h34 : M 81 34 ≤ 2340) (h38 : M 81 38 ≤ 1800) (h42 : M 81 42 ≤ 1440) (hhi : hi ≤ 500) : ∀ {l : List ((Int × Int) × z_T)} {b c : Int}, paR M b l → paW T hi c l → (∀ y ∈ l, w_w y.1.1 y.1.2 ∧ z_Tk y.2) → ∀ i : Int, 0 ≤ i → i < l.length → vt M (M 92 (b + i)) ∧ -2147483648 ≤ M 91 (b + i) ∧ M 91 (b + i) ≤ 2147483647
  | [], _, _, _, _, _, i, i0, i1 => by rw [List.length_nil] at i1; omega
  | y :: l, b, c, ⟨⟨a1, a2⟩, a3⟩, ⟨b1, b2, b3, b4⟩, hk, i, i0, i1 => by
    obtain ⟨k1, k2⟩ := hk y List.mem_cons_self
    by_cases q : i = 0
    · subst q
      rw [Int.add_zero]
      have p1 := w_w_pos k1
      have p2 := w_w_in k1
      exact ⟨vt_Q h30 h34 h38 h42 (Int.le_refl _) hhi a2 b3 k2, by omega, by omega⟩
    · rw [List.length_cons] at i1
      have r := paR_vt h30 h34 h38 h42 hhi a3 b4 (fun u hu => hk u (List.mem_cons_of_mem _ hu)) (i - 1) (by omega) (by omega)
      rw [show b + 1 + (i - 1) = b + i by omega] at r
      exact r
theorem vx_C {M M' : Nat → Int → Int} (h : ∀ x, x ≠ 81 → M' x = M x) {x : Int} (q : vx M x) : vx M' x := by
  unfold vx at q ⊢
  rw [h 107 (by decide), h 108 (by decide), h 104 (by decide)]
  exact q
theorem vF_C {M M' : Nat → Int → Int} (h : ∀ x, x ≠ 81 → M' x = M x) {f : Int} (q : vF M f) : vF M' f := vF_T (fun x _ _ _ => h x (by omega)) q
theorem rV_of {M : Nat → Int → Int} {g z : Int} {T F : Int → Int} (hg : 0 ≤ g ∧ g ≤ 8) (hz : z ≤ 500) (h : fR g (mf g M) T F z) : vF M g ∧ 0 ≤ M 95 g ∧ ∃ t w, vn M ((M 95 g).toNat + 1) (M 95 g) t w ∧ t ≤ 689 ∧ w ≤ 290 := by
  obtain ⟨N, L, P, x, a1, ⟨b1, b2, b3, b4, b5, b6⟩, ⟨c1, c2, c3, c4, c5, c6⟩, ⟨d1, d2, d3, d4, d5, d6⟩, ⟨e1, e2, e3⟩, ⟨g1, ⟨tt, w, x1, x2, x3, x4, x5, x6⟩⟩, g2⟩ := h
  obtain ⟨m1, m2, m3, m4, m5, m6, m7⟩ := mf_c (f := g) (M := M)
  have e : ∀ x, x ≠ 81 → M x = mf g M x := fun x hx => (mf_ne hx).symm
  have h30 : mf g M 81 30 ≤ 4500 := by omega
  have h34 : mf g M 81 34 ≤ 2340 := by omega
  have h38 : mf g M 81 38 ≤ 1800 := by omega
  have h42 : mf g M 81 42 ≤ 1440 := by omega
  have vf : vF (mf g M) g := by
    refine ⟨by omega, by omega, ?_, by omega, by omega, fun i i0 i1 => paR_vt h30 h34 h38 h42 hz d5 d4 d6 i i0 (by omega), vt_Q h30 h34 h38 h42 (Int.le_refl _) hz e2 e1 e3⟩
    rw [c1, Int.toNat_natCast]
    exact vp_Q h30 h34 h38 (Int.le_refl _) hz c4 c3 c5
  obtain ⟨S, s1, s2⟩ := g2
  have hr := (s2 _ _ _ s1).1
  have v := e_vn s2 hz (by omega) (by omega) h30 h34 h38 h42 x5 ((mf g M 95 g).toNat + 1) (mf g M 95 g) (F 10) _ 60 1 z tt w (by omega) s1 g1.1 g1.2 (fun y hy => by unfold e_D at hy; exact hy.1) (Int.le_refl _) x1 ((mf g M 95 g).toNat + 1) (by omega)
  refine ⟨vF_C e vf, by rw [e 95 (by decide)]; omega, tt, w, ?_, by omega, by omega⟩
  rw [e 95 (by decide)]
  exact vn_T (fun x _ _ _ => e x (by omega)) v

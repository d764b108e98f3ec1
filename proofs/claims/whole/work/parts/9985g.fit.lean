/-! DO SLOTS FIT? what a function's header is, in tables; its names are known -/
def ixF (f : Int) (M : Nat → Int → Int) (x : Int) (L : List z_t) : Prop := (0 ≤ x ∧ x < 260 * (f + 1)) ∧ M 108 x = L.length ∧ tmR M (M 107 x) L ∧ (0 ≤ M 107 x ∧ M 107 x + L.length ≤ 500 * (f + 1)) ∧ ∀ t ∈ L, z_tk t
def psF (f : Int) (M : Nat → Int → Int) : Int → List z_p → Prop
  | _, [] => True
  | i, x :: l => ((0 ≤ i ∧ i < 200 * (f + 1)) ∧ ixF f M (M 110 i) x.2.2.1 ∧ (M 111 i = x.1 ∧ 0 ≤ x.1 ∧ x.1 ≤ 4) ∧ ixF f M (M 112 i) x.2.2.2.1) ∧ psF f M (i + 1) l
def tyF (f : Int) (M : Nat → Int → Int) (t : Int) (x : z_T) : Prop := (0 ≤ t ∧ t < 160 * (f + 1)) ∧ (M 113 t = x.1 ∧ (x.1 = 0 ∨ x.1 = 1 ∨ x.1 = 2 ∨ x.1 = 3)) ∧ (x.1 = 1 ∨ x.1 = 3 → ixF f M (M 114 t) x.2.2.1.2) ∧ (x.1 = 2 → M 115 t = x.2.2.2.1.2 ∧ w_w x.2.2.2.1.1 x.2.2.2.1.2 ∧ psF f M (M 116 t) x.2.2.2.2 ∧ x.2.2.2.2 ≠ []) ∧ M 117 t = x.2.2.2.2.length
def paF (f : Int) (M : Nat → Int → Int) : Int → List ((Int × Int) × z_T) → Prop
  | _, [] => True
  | b, y :: l => (M 91 b = y.1.2 ∧ tyF f M (M 92 b) y.2 ∧ w_w y.1.1 y.1.2) ∧ paF f M (b + 1) l
section
variable {M M' : Nat → Int → Int} {f n : Int}
theorem ixQ_F {x a : Int} {L : List z_t} (h : ixQ (mf f M) x a L) (hz : ∀ t ∈ L, z_tk t) : ixF f M x L := by
  obtain ⟨⟨-, h1, h2⟩, h3, h4, h5⟩ := h
  obtain ⟨-, m2, m3, -, -, -⟩ := mf_c (f := f) (M := M)
  rw [m3] at h3
  rw [m2] at h5
  rw [mf_ne (x := 107) (by decide)] at h2 h4 h5
  rw [mf_ne (x := 108) (by decide)] at h1
  exact ⟨h3, h1, tmR_fr (fun y i y1 y2 _ _ => by rw [mf_ne (by omega)]) h2, ⟨h4, h5⟩, hz⟩
theorem psQ_F : ∀ {L : List z_p} {i : Int}, psQ (mf f M) i L → (∀ x ∈ L, z_pk x) → psF f M i L
  | [], _, _, _ => trivial
  | x :: l, i, ⟨⟨h0, h1, h2, h3⟩, h4⟩, hk => by
    obtain ⟨-, -, -, m4, -, -⟩ := mf_c (f := f) (M := M)
    obtain ⟨⟨k1, -⟩, ⟨k2, -⟩, -, -, k3⟩ := hk x List.mem_cons_self
    rw [m4] at h0
    rw [mf_ne (x := 110) (by decide)] at h1
    rw [mf_ne (x := 111) (by decide)] at h2
    rw [mf_ne (x := 112) (by decide)] at h3
    exact ⟨⟨h0, ixQ_F h1 k1, ⟨h2, k3⟩, ixQ_F h3 k2⟩, psQ_F h4 (fun y hy => hk y (List.mem_cons_of_mem _ hy))⟩
theorem tyQ_F {t : Int} {x : z_T} (h : tyQ (mf f M) t x) (hk : z_Tk x) : tyF f M t x := by
  obtain ⟨h0, h1, h2, h3, h4, h5⟩ := h
  obtain ⟨-, -, -, -, m5, -⟩ := mf_c (f := f) (M := M)
  rw [m5] at h0
  rw [mf_ne (x := 113) (by decide)] at h1
  rw [mf_ne (x := 114) (by decide)] at h3
  rw [mf_ne (x := 115) (by decide), mf_ne (x := 116) (by decide)] at h4
  rw [mf_ne (x := 117) (by decide)] at h5
  refine ⟨h0, ⟨h1, h2⟩, fun z => ixQ_F (h3 z) (hk.1 z).1.1, fun z => ?_, h5⟩
  obtain ⟨k1, k2, k3, -⟩ := hk.2 z
  exact ⟨(h4 z).1, k1, psQ_F (h4 z).2 k2, k3⟩
theorem paR_F : ∀ {P : List ((Int × Int) × z_T)} {b : Int}, paR (mf f M) b P → (∀ y ∈ P, w_w y.1.1 y.1.2 ∧ z_Tk y.2) → paF f M b P
  | [], _, _, _ => trivial
  | y :: l, b, ⟨⟨h1, h2⟩, h3⟩, hk => by
    rw [mf_ne (x := 91) (by decide)] at h1
    rw [mf_ne (x := 92) (by decide)] at h2
    exact ⟨⟨h1, tyQ_F h2 (hk y List.mem_cons_self).2, (hk y List.mem_cons_self).1⟩, paR_F h3 (fun z hz => hk z (List.mem_cons_of_mem _ hz))⟩
theorem ixF_y {x : Int} {L : List z_t} (hy : dY n M M') (hf : 0 ≤ f ∧ f < n) (h : ixF f M x L) : ixF f M' x L := by
  obtain ⟨-, -, y5, y6, -, -, -⟩ := hy
  obtain ⟨h1, h2, h3, h4, h5⟩ := h
  have e7 := y6 107 x (by decide) (by decide) (by omega)
  have e8 := y6 108 x (by decide) (by decide) (by omega)
  unfold ixF
  rw [e7, e8]
  exact ⟨h1, h2, tmR_fr (fun z i z1 z2 i1 i2 => y5 z i z1 z2 (by omega)) h3, h4, h5⟩
theorem psF_y (hy : dY n M M') (hf : 0 ≤ f ∧ f < n) : ∀ {L : List z_p} {i : Int}, psF f M i L → psF f M' i L
  | [], _, _ => trivial
  | x :: l, i, ⟨⟨h0, h1, h2, h3⟩, h4⟩ => by
    have y7 := hy.2.2.2.2.1
    refine ⟨⟨h0, ?_, ?_, ?_⟩, psF_y hy hf h4⟩
    · rw [y7 110 i (by decide) (by decide) (by omega)]; exact ixF_y hy hf h1
    · rw [y7 111 i (by decide) (by decide) (by omega)]; exact h2
    · rw [y7 112 i (by decide) (by decide) (by omega)]; exact ixF_y hy hf h3
theorem tyF_y {t : Int} {x : z_T} (hy : dY n M M') (hf : 0 ≤ f ∧ f < n) (h : tyF f M t x) : tyF f M' t x := by
  have y8 := hy.2.2.2.2.2.1
  obtain ⟨h0, h1, h2, h3, h4⟩ := h
  unfold tyF
  rw [y8 113 t (by decide) (by decide) (by omega), y8 114 t (by decide) (by decide) (by omega), y8 115 t (by decide) (by decide) (by omega), y8 116 t (by decide) (by decide) (by omega), y8 117 t (by decide) (by decide) (by omega)]
  exact ⟨h0, h1, fun z => ixF_y hy hf (h2 z), fun z => ⟨(h3 z).1, (h3 z).2.1, psF_y hy hf (h3 z).2.2.1, (h3 z).2.2.2⟩, h4⟩
theorem paF_y (hy : dY n M M') (hf : 0 ≤ f ∧ f < n) : ∀ {P : List ((Int × Int) × z_T)} {b : Int}, b + P.length ≤ 5 * f + 5 → paF f M b P → paF f M' b P
  | [], _, _, _ => trivial
  | y :: l, b, hb, ⟨⟨h1, h2, h3⟩, h4⟩ => by
    rw [List.length_cons] at hb
    have y3 := hy.1.2.2
    refine ⟨⟨?_, ?_, h3⟩, paF_y hy hf (by omega) h4⟩
    · rw [y3 91 b (.inl rfl) (by omega)]; exact h1
    · rw [y3 92 b (.inr rfl) (by omega)]; exact tyF_y hy hf h2
theorem ixF_B {x : Int} {L : List z_t} (hf : f < 8) (h : ixF f M x L) : xB M x L := ⟨⟨h.1.1, by have := h.1.2; omega⟩, h.2.1, h.2.2.1, ⟨h.2.2.2.1.1, by have := h.2.2.2.1.2; omega⟩, h.2.2.2.2⟩
theorem psF_rg : ∀ {L : List z_p} {i : Int}, psF f M i L → L ≠ [] → 0 ≤ i ∧ i + L.length ≤ 200 * (f + 1)
  | [], _, _, h => absurd rfl h
  | [x], i, ⟨⟨h0, _⟩, _⟩, _ => by
    show 0 ≤ i ∧ i + ((1 : Nat) : Int) ≤ _
    omega
  | x :: y :: l, i, ⟨⟨h0, _⟩, h⟩, _ => by
    have := psF_rg h (by simp)
    simp only [List.length_cons] at this ⊢
    omega
/-- what they say of values -/
theorem iX_F {nu : Int → Int} {iw iv x : Int} {L : List z_t} (h : ixF f M x L) : iX M nu iw iv x = vL nu iw iv L := iX_L (a := M 109 x) ⟨rfl, h.2.1, h.2.2.1⟩
theorem pH_F {nu : Int → Int} {iw iv : Int} : ∀ {L : List z_p} {p : Int}, psF f M p L → (pH M nu iw iv p L.length ↔ pL nu iw iv L)
  | [], _, _ => ⟨(fun _ x hx => by cases hx), fun _ => trivial⟩
  | x :: L, p, ⟨⟨_, h1, ⟨h2, _⟩, h3⟩, h4⟩ => by
    show (rGp (M 111 p) (iX M nu iw iv (M 112 p) - iX M nu iw iv (M 110 p)) ∧ pH M nu iw iv (p + 1) L.length) ↔ _
    rw [pH_F h4, h2, iX_F h1, iX_F h3, pL_cons]
theorem tS_F {nu : Int → Int} {t v : Int} {x : z_T} (h : tyF f M t x) : tS M nu t v ↔ tL nu x v := by
  obtain ⟨-, ⟨h1, h2⟩, h3, h4, h5⟩ := h
  unfold tS tL
  rw [h1, h5, Int.toNat_natCast]
  refine and_congr ⟨fun q z => ?_, fun q z => ?_⟩ ⟨fun q z => ?_, fun q z => ?_⟩
  · rw [← iX_F (h3 z)]; exact q z
  · rw [iX_F (h3 z)]; exact q z
  · obtain ⟨a, -, b, -⟩ := h4 z
    rw [← a]; exact (pH_F b).mp (q z)
  · obtain ⟨a, -, b, -⟩ := h4 z
    rw [a]; exact (pH_F b).mpr (q z)
/-- a name of the header -/
def nmD (M : Nat → Int → Int) (f w : Int) : Prop := (∃ k, 0 ≤ k ∧ k < M 88 f ∧ M 87 (4 * f + k) = w) ∨ ∃ j, 0 ≤ j ∧ j < M 93 f ∧ M 91 (5 * f + j) = w
def eD (M : Nat → Int → Int) (f : Int) (E : k_E) : Prop := ∀ x ∈ E, nmD M f x.1
def kL (M : Nat → Int → Int) (f iw : Int) (L : List z_t) : Prop := ∀ t ∈ L, t.2.2.1 = 0 ∨ t.2.2.1 = iw ∨ nmD M f t.2.2.1
theorem k_fd_D {w : Int} {y : Int × (Int → Int)} : ∀ {E : k_E}, eD M f E → k_fd w E = some y → nmD M f w
  | [], _, h => by cases h
  | x :: l, he, h => by
    unfold k_fd at h
    split at h
    · rename_i c
      rw [← c]
      exact he x List.mem_cons_self
    · exact k_fd_D (fun z hz => he z (List.mem_cons_of_mem _ hz)) h
theorem k_ix_D {E : k_E} {iw : Int} (he : eD M f E) : ∀ {L : List (Int × Int × Int)} {h : Int → Int} {z : Int} {y : (Int → Int) × Int}, k_ix E iw L h z = .inr y → ∀ t ∈ L, t.2.1 = 0 ∨ t.2.1 = iw ∨ nmD M f t.2.1
  | [], _, _, _, _, t, ht => by cases ht
  | u :: l, h, z, y, e, t, ht => by
    unfold k_ix at e
    split at e
    · rename_i c
      rcases List.mem_cons.mp ht with rfl | ht
      · exact .inl c
      · exact k_ix_D he e t ht
    · split at e
      · rename_i c
        rcases List.mem_cons.mp ht with rfl | ht
        · exact .inr (.inl c)
        · exact k_ix_D he e t ht
      · split at e
        · cases e
        · rename_i c
          split at e
          · cases e
          · rcases List.mem_cons.mp ht with rfl | ht
            · exact .inr (.inr (k_fd_D he c))
            · exact k_ix_D he e t ht
theorem k_xx_D {E : k_E} {iw cp x : Int} {L : List z_t} {y : (Int → Int) × Int} (he : eD M f E) (h : k_xx M E iw cp x = .inr y) (hx : ixF n M x L) : kL M f iw L := by
  have e := k_xx_inv h
  rw [hx.2.1, Int.toNat_natCast, tmR_tl hx.2.2.1] at e
  exact fun t ht => k_ix_D he e (k_t3 t) (List.mem_map.mpr ⟨t, ht, rfl⟩)
theorem k_rp_D {E : k_E} {iw cp : Int} (he : eD M f E) : ∀ {L : List z_p} {p : Int} {l : List (Int × (Int → Int) × Int)}, k_rp M E iw cp p L.length = .inr l → psF n M p L → ∀ x ∈ L, kL M f iw x.2.2.1 ∧ kL M f iw x.2.2.2.1
  | [], _, _, _, _, x, hx => by cases hx
  | u :: L, p, l, h, ⟨⟨_, q1, _, q3⟩, q4⟩, x, hx => by
    obtain ⟨a, h1, h2⟩ := k_b_inv (show k_b (k_xx M E iw cp (M 110 p)) _ = .inr l from h)
    obtain ⟨b, h3, h4⟩ := k_b_inv h2
    obtain ⟨l', h5, h6⟩ := k_b_inv h4
    rcases List.mem_cons.mp hx with rfl | hx
    · exact ⟨k_xx_D he h1 q1, k_xx_D he h3 q3⟩
    · exact k_rp_D he h5 q4 x hx
def tK (M : Nat → Int → Int) (f : Int) (x : z_T) : Prop := (x.1 = 1 ∨ x.1 = 3 → kL M f 0 x.2.2.1.2) ∧ (x.1 = 2 → ∀ y ∈ x.2.2.2.2, kL M f x.2.2.2.1.2 y.2.2.1 ∧ kL M f x.2.2.2.1.2 y.2.2.2.1)
theorem k_rs_D {E : k_E} {cp t : Int} {x : z_T} {y : k_h} (he : eD M f E) (h : k_rs M E cp t = .inr y) (hx : tyF n M t x) : tK M f x := by
  obtain ⟨-, ⟨h1, h2⟩, h3, h4, h5⟩ := hx
  unfold k_rs at h
  rw [h1] at h
  split at h
  · rename_i c
    obtain ⟨a, a1, -⟩ := k_b_inv h
    exact ⟨fun _ => k_xx_D he a1 (h3 c), fun z => by omega⟩
  · rename_i c
    split at h
    · rename_i c2
      obtain ⟨a, a1, -⟩ := k_b_inv h
      obtain ⟨b1, -, b2, -⟩ := h4 c2
      rw [b1, h5, Int.toNat_natCast] at a1
      exact ⟨fun z => by omega, fun _ => k_rp_D he a1 b2⟩
    · exact ⟨fun z => by omega, fun z => by omega⟩
theorem k_hn_D : ∀ {m : Nat} {i v : Int} {E : k_E}, 0 ≤ i → i + m ≤ M 88 f → eD M f E → eD M f (k_hn M (4 * f + i) v m E)
  | 0, _, _, _, _, _, h => h
  | m + 1, i, v, E, h0, h1, h => by
    unfold k_hn
    rw [Int.add_assoc]
    refine k_hn_D (by omega) (by omega) (fun x hx => ?_)
    rcases List.mem_cons.mp hx with rfl | hx
    · exact .inl ⟨i, h0, by omega, rfl⟩
    · exact h x hx
theorem k_hp_D : ∀ {P : List ((Int × Int) × z_T)} {j : Int} {E : k_E} {s : k_s} {y : k_E × k_s}, 0 ≤ j → j + P.length ≤ M 93 f → k_hp M (5 * f + j) P.length E s = .inr y → eD M f E → paF n M (5 * f + j) P → ∀ z ∈ P, tK M f z.2
  | [], _, _, _, _, _, _, _, _, _, z, hz => by cases hz
  | p :: P, j, E, s, y, j0, j1, h, he, ⟨⟨_, q2, _⟩, q4⟩, z, hz => by
    rw [List.length_cons] at j1
    obtain ⟨t, h1, h2⟩ := k_b_inv (show k_b (k_rs M E (-1) (M 92 (5 * f + j))) _ = .inr y from h)
    obtain ⟨u, h3, h4⟩ := k_b_inv h2
    rcases List.mem_cons.mp hz with rfl | hz
    · exact k_rs_D he h1 q2
    · rw [Int.add_assoc] at h4 q4
      refine k_hp_D (by omega) (by omega) h4 (fun x hx => ?_) q4 z hz
      rcases List.mem_cons.mp hx with rfl | hx
      · exact .inr ⟨j, j0, by omega, rfl⟩
      · exact he x hx
theorem k_hd_D {s : k_s} {y : k_E × k_s × k_h} {L : List z_p} {P : List ((Int × Int) × z_T)} (h : k_hd M f s = .inr y) (h88 : 0 ≤ M 88 f) (h90 : M 90 f = L.length) (hL : psF n M (M 89 f) L) (h93 : M 93 f = P.length) (hP : paF n M (5 * f) P) : (∀ x ∈ L, kL M f 0 x.2.2.1 ∧ kL M f 0 x.2.2.2.1) ∧ ∀ z ∈ P, tK M f z.2 := by
  obtain ⟨ps, s1, h1, h3, h5, h7⟩ := hd_inv h
  have e0 : eD M f (k_hn M (4 * f) 0 (M 88 f).toNat []) := by
    have := k_hn_D (M := M) (f := f) (m := (M 88 f).toNat) (i := 0) (v := 0) (E := []) (Int.le_refl 0) (by omega) (fun x hx => by cases hx)
    rw [Int.add_zero] at this
    exact this
  rw [h90, Int.toNat_natCast] at h1
  rw [h93, Int.toNat_natCast] at h5
  refine ⟨k_rp_D e0 h1 hL, ?_⟩
  have hP' : paF n M (5 * f + 0) P := by rw [Int.add_zero]; exact hP
  exact k_hp_D (Int.le_refl 0) (by omega) (by rw [Int.add_zero]; exact h5) e0 hP'
end

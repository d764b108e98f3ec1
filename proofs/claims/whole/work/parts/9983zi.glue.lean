/-! THE CODE'S OPERATIONS; a tree whose code is to be made -/
def oK (l : List (Int × Int)) : Prop := ∀ x ∈ l, 0 ≤ x.1 ∧ x.1 ≤ 22
theorem oK_a {a b : List (Int × Int)} (h1 : oK a) (h2 : oK b) : oK (a ++ b) := fun x hx => (List.mem_append.mp hx).elim (h1 x) (h2 x)
theorem oK_c {x : Int × Int} {b : List (Int × Int)} (h1 : 0 ≤ x.1 ∧ x.1 ≤ 22) (h2 : oK b) : oK (x :: b) := fun y hy => by
  rcases List.mem_cons.mp hy with rfl | hy
  · exact h1
  · exact h2 y hy
theorem oK_n : oK [] := fun _ h => by cases h
theorem oK_1 {a b : Int} (h : 0 ≤ a ∧ a ≤ 22) : oK [(a, b)] := oK_c h oK_n
theorem k_ea_K {M : Nat → Int → Int} {em : Int → Int → List (Int × Int)} : ∀ {n : Nat} {a p : Int}, (∀ i : Int, 0 ≤ i → i < n → ∀ p, oK (em (M 118 (a + i)) p)) → oK (k_ea M em a n p)
  | 0, _, _, _ => oK_n
  | n + 1, a, p, h => by
    refine oK_a ?_ (k_ea_K (fun i i0 i1 p => ?_))
    · have := h 0 (by omega) (by omega) p
      rw [Int.add_zero] at this
      exact this
    · rw [show a + 1 + i = a + (i + 1) by omega]
      exact h (i + 1) (by omega) (by omega) p
theorem k_em_K {M : Nat → Int → Int} {fs : Nat} {fr : Int → Int} : ∀ (n L : Nat) (W : List Int) (r t w p : Int) (m : Nat), vn M L r t w → vd M fr L r m → oK (k_em M fs fr n W r p)
  | 0, _, _, _, _, _, _, _, _, _ => oK_n
  | n + 1, 0, _, _, _, _, _, _, h, _ => h.elim
  | n + 1, L + 1, W, r, t, w, p, m, ⟨_, _, hc⟩, ⟨d2, d3, d4, d6, d8, d13, d14⟩ => by
    have ih := k_em_K (M := M) (fs := fs) (fr := fr) n L
    rcases hc with c | c | c | c | c | c | c | c | c | c | c | c
    · rw [k_em_0 c.1]; exact oK_1 (by decide)
    · rw [k_em_1 c]; exact oK_1 (by decide)
    · rw [k_em_5 c]; exact oK_c (by dsimp only; omega) (oK_1 (by decide))
    · have f0 := (d2 c.1).1
      rw [k_em_2 c.1]; exact oK_c (by dsimp only; omega) (oK_a (ih _ _ _ _ _ _ c.2 (d2 c.1).2) (oK_1 (by omega)))
    · have f0 := (d3 c.1).1
      rw [k_em_3 c.1]; exact oK_c (by dsimp only; omega) (oK_a (oK_a (ih _ _ _ _ _ _ c.2.1 (d3 c.1).2.1) (ih _ _ _ _ _ _ c.2.2 (d3 c.1).2.2)) (oK_1 (by omega)))
    · rw [k_em_4 c.1]
      refine oK_a (k_ea_K (fun i i0 i1 p => ?_)) (oK_1 (by decide))
      exact ih _ _ _ _ _ _ (c.2.2.2.2.2.2 i i0 (by omega)) (d4 c.1 i i0 (by omega))
    · obtain ⟨c1 | c1 | c1, cv⟩ := c
      · rw [k_em_6 c1]; exact oK_a (ih _ _ _ _ _ _ cv (d6 (.inl c1))) (oK_1 (by decide))
      · rw [k_em_7 c1]; exact oK_a (ih _ _ _ _ _ _ cv (d6 (.inr (.inl c1)))) (oK_1 (by decide))
      · rw [k_em_15 (.inl c1)]; exact ih _ _ _ _ _ _ cv (d6 (.inr (.inr (.inr (.inl c1)))))
    · obtain ⟨c1, cv1, cv2⟩ := c
      have d := d8 c1
      by_cases q : M 96 r = 12
      · rw [k_em_12 q]; exact oK_a (ih _ _ _ _ _ _ cv1 d.1) (oK_c (by decide) (ih _ _ _ _ _ _ cv2 d.2))
      · rw [k_em_8 (by omega)]; exact oK_a (oK_a (ih _ _ _ _ _ _ cv1 d.1) (ih _ _ _ _ _ _ cv2 d.2)) (oK_1 (by omega))
    · rw [k_em_11 c.1]; exact oK_a (ih _ _ _ _ _ _ c.2.2 (d6 (.inr (.inr (.inl c.1))))) (oK_1 (by decide))
    · rw [k_em_13 c.1]; exact oK_a (ih _ _ _ _ _ _ c.2.2.1 (d13 c.1).2.1) (oK_c (by dsimp only; decide) (ih _ _ _ _ _ _ c.2.2.2 (d13 c.1).2.2))
    · rw [k_em_14 c.1]
      have d := d14 c.1
      unfold e_if
      exact oK_a (oK_a (oK_a (oK_a (oK_a (ih _ _ _ _ _ _ c.2.2.1 d.1) (ih _ _ _ _ _ _ c.2.2.2.1 d.2.1)) (oK_1 (by omega))) (ih _ _ _ _ _ _ c.2.2.2.2.1 d.2.2.1)) (oK_1 (by decide))) (ih _ _ _ _ _ _ c.2.2.2.2.2 d.2.2.2)
    · rw [k_em_15 (.inr c.1)]; exact ih _ _ _ _ _ _ c.2.2 (d6 (.inr (.inr (.inr (.inr c.1)))))
theorem oK_W {l : List (Int × Int)} (h : oK l) : oW l := fun x hx => by
  have := h x hx
  omega
theorem oH_of {M0 M1 : Nat → Int → Int} {tr : Nat → c_t} {fs g : Nat} {nf : Int → Int} (hg : g ≤ 8) (hz : (tr g).2.1 1 ≤ 500) (h : fR g (mf g M0) (tr g).2.2 (tr g).2.1 ((tr g).2.1 1)) (hd : vd M0 nf ((M0 95 g).toNat + 1) (M0 95 g) (M0 93 g).toNat) (hT : tM (tr g).2.2 (M1 ((tr g).1 + 175))) (hC : jC fs tr M0 60 g M1 nf) : oH 60 (M1 ((tr g).1 + 175)) (tr g).2.1 := by
  obtain ⟨vf, r0, t, w, hv, -, -⟩ := rV_of (g := g) (by omega) hz h
  obtain ⟨N, L, P, x, a1, b, c, d, ⟨e1, e2, e3⟩, ⟨g1, ⟨tt, w', x1, x2, x3, x4, x5, x6⟩⟩, g2⟩ := h
  obtain ⟨sh, y, hy, hk⟩ := hC
  have hk' := hk ((M0 95 g).toNat + 1) (by omega) 0
  refine ⟨⟨tt, w', ht_M hT x1⟩, hz, ?_, ?_, e1.1.1, e1.1.2⟩
  · rw [c_em_l hT (q := 0)]
    have := x6 60 0
    omega
  · rw [hk']
    exact oK_W (k_em_K _ _ _ _ _ _ _ _ hv hd)

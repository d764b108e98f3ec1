/-! AN ACCEPTED PROGRAM: functions that are called are there -/
def oFn (fs : Nat) (l : List (Int × Int)) : Prop := ∀ x ∈ l, x.1 = 15 → 0 ≤ x.2 ∧ x.2 < (fs : Int)
section
variable {fs : Nat}
theorem oFn_a {a b : List (Int × Int)} (h1 : oFn fs a) (h2 : oFn fs b) : oFn fs (a ++ b) := fun x hx => (List.mem_append.mp hx).elim (h1 x) (h2 x)
theorem oFn_c {x : Int × Int} {b : List (Int × Int)} (h1 : x.1 = 15 → 0 ≤ x.2 ∧ x.2 < (fs : Int)) (h2 : oFn fs b) : oFn fs (x :: b) := fun y hy => by
  rcases List.mem_cons.mp hy with rfl | hy
  · exact h1
  · exact h2 y hy
theorem oFn_n : oFn fs [] := fun _ h => by cases h
theorem oFn_1 {a b : Int} (h : a = 15 → 0 ≤ b ∧ b < (fs : Int)) : oFn fs [(a, b)] := oFn_c h oFn_n
theorem k_ea_F {M : Nat → Int → Int} {em : Int → Int → List (Int × Int)} : ∀ {n : Nat} {a p : Int}, (∀ i : Int, 0 ≤ i → i < n → ∀ p, oFn fs (em (M 118 (a + i)) p)) → oFn fs (k_ea M em a n p)
  | 0, _, _, _ => oFn_n
  | n + 1, a, p, h => by
    refine oFn_a ?_ (k_ea_F (fun i i0 i1 p => ?_))
    · have := h 0 (by omega) (by omega) p
      rw [Int.add_zero] at this
      exact this
    · rw [show a + 1 + i = a + (i + 1) by omega]
      exact h (i + 1) (by omega) (by omega) p
theorem k_ck_F {M : Nat → Int → Int} {f : Int} {fr : Int → Int} : ∀ (n : Nat) (w : Option k_h) (r : Int) (E : k_E) (s : k_s) (y : k_v), k_ck M (fs : Int) f n w r E s = .inr y → ∀ (L : Nat) (t wv : Int) (mm : Nat), vn M L r t wv → vd M fr L r mm → ∀ (m : Nat) (W : List Int) (p : Int), oFn fs (k_em M fs fr m W r p) := by
  intro n
  induction n with
  | zero => intro w r E s y h; cases h
  | succ n ih =>
    intro w r E s y h L t wv mm hv hd m W p
    cases L with
    | zero => exact hv.elim
    | succ L =>
      obtain ⟨hr, htw, hc⟩ := hv
      obtain ⟨d2, d3, d4, d6, d8, d13, d14⟩ := id hd
      cases m with
      | zero => exact oFn_n
      | succ m =>
      by_cases k12 : M 96 r = 12
      · rw [k_ck_12 k12] at h
        obtain ⟨a, h1, h2⟩ := k_b_inv h
        have hv : vn M L (M 97 r) (t - 1) wv ∧ vn M L (M 98 r) (t - 1) (wv - 1) := by
          rcases hc with c | c | c | c | c | c | c | c | c | c | c | c <;> first | exact c.2 | (exfalso; omega)
        have d := d8 (.inr (.inr (.inr k12)))
        rw [k_em_12 k12]
        exact oFn_a (ih _ _ _ _ _ h1 L _ _ _ hv.1 d.1 _ _ _) (oFn_c (fun q => by dsimp only at q; omega) (ih _ _ _ _ _ h2 L _ _ _ hv.2 d.2 _ _ _))
      · by_cases k13 : M 96 r = 13
        · rw [k_ck_13 k13] at h
          obtain ⟨a, h1, h2⟩ := k_b_inv h
          have hv : vn M L (M 98 r) (t - 1) wv ∧ vn M L (M 99 r) (t - 1) wv := by
            rcases hc with c | c | c | c | c | c | c | c | c | c | c | c <;> first | exact c.2.2 | (exfalso; omega)
          by_cases q : (E.length : Int) - M 88 f = 10
          · rw [if_pos q] at h2; cases h2
          · rw [if_neg q] at h2
            have d := d13 k13
            rw [k_em_13 k13]
            exact oFn_a (ih _ _ _ _ _ h1 L _ _ _ hv.1 d.2.1 _ _ _) (oFn_c (fun q => by dsimp only at q; omega) (ih _ _ _ _ _ h2 L _ _ _ hv.2 d.2.2 _ _ _))
        · by_cases k14 : M 96 r = 14
          · rw [k_ck_if k14] at h
            obtain ⟨a, h1, h2⟩ := k_b_inv h
            obtain ⟨b, h3, h4⟩ := k_b_inv h2
            unfold k_i3 at h4
            obtain ⟨s1, h5, h6⟩ := k_b_inv h4
            obtain ⟨y1, h7, h8⟩ := k_b_inv h6
            unfold k_i4 at h8
            obtain ⟨s2, h9, h10⟩ := k_b_inv h8
            obtain ⟨x, h11, h12⟩ := k_b_inv h10
            have hv : (0 ≤ M 97 r ∧ M 97 r ≤ 4) ∧ vn M L (M 98 r) (t - 1) wv ∧ vn M L (M 99 r) (t - 1) (wv - 1) ∧ vn M L (M 100 r) (t - 1) (wv - 2) ∧ vn M L (M 101 r) (t - 1) (wv - 3) := by
              rcases hc with c | c | c | c | c | c | c | c | c | c | c | c <;> first | exact c.2 | (exfalso; omega)
            have d := d14 k14
            have v0 := hv.1
            rw [k_em_14 k14]
            unfold e_if
            exact oFn_a (oFn_a (oFn_a (oFn_a (oFn_a (ih _ _ _ _ _ (k_nm_inv h1).1 L _ _ _ hv.2.1 d.1 _ _ _) (ih _ _ _ _ _ (k_nm_inv h3).1 L _ _ _ hv.2.2.1 d.2.1 _ _ _)) (oFn_1 (fun q => by omega))) (ih _ _ _ _ _ h7 L _ _ _ hv.2.2.2.1 d.2.2.1 _ _ _)) (oFn_1 (fun q => by omega))) (ih _ _ _ _ _ h11 L _ _ _ hv.2.2.2.2 d.2.2.2 _ _ _)
          · by_cases k15 : M 96 r = 15
            · rw [k_ck_15 k15] at h
              have hv : vn M L (M 97 r) (t - 1) wv := by
                rcases hc with c | c | c | c | c | c | c | c | c | c | c | c <;> first | exact c.2 | (exfalso; omega)
              rw [k_em_15 (.inl k15)]
              exact ih _ _ _ _ _ h L _ _ _ hv (d6 (.inr (.inr (.inr (.inl k15))))) _ _ _
            · have hp : k_pk (M 96 r) := ⟨k12, k13, k14, k15⟩
              cases w with
              | some tt =>
                rw [k_ck_s hp] at h
                obtain ⟨a, h1, h2⟩ := k_b_inv h
                exact ih _ _ _ _ _ h1 (L + 1) t wv mm ⟨hr, htw, hc⟩ hd _ _ _
              | none =>
                rcases hc with c | c | c | c | c | c | c | c | c | c | c | c
                · rw [k_em_0 c.1]; exact oFn_1 (fun q => by omega)
                · rw [k_em_1 c]; exact oFn_1 (fun q => by omega)
                · rw [k_em_5 c]; exact oFn_c (fun q => by dsimp only at q; omega) (oFn_1 (fun q => by omega))
                · rw [k_ck_n2 (.inl c.1)] at h
                  split at h
                  · cases h
                  · split at h
                    · obtain ⟨a, h1, h2⟩ := k_b_inv h
                      have f0 := (d2 c.1).1
                      rw [k_em_2 c.1]
                      exact oFn_c (fun q => by dsimp only at q; omega) (oFn_a (ih _ _ _ _ _ (k_nm_inv h1).1 L _ _ _ c.2 (d2 c.1).2 _ _ _) (oFn_1 (fun q => by omega)))
                    · cases h
                · rw [k_ck_n2 (.inr c.1)] at h
                  split at h
                  · cases h
                  · split at h
                    · obtain ⟨a, h1, h2⟩ := k_b_inv h
                      rw [if_neg (by omega)] at h2
                      obtain ⟨b, h3, h4⟩ := k_b_inv h2
                      have f0 := (d3 c.1).1
                      rw [k_em_3 c.1]
                      exact oFn_c (fun q => by dsimp only at q; omega) (oFn_a (oFn_a (ih _ _ _ _ _ (k_nm_inv h1).1 L _ _ _ c.2.1 (d3 c.1).2.1 _ _ _) (ih _ _ _ _ _ (k_nm_inv h3).1 L _ _ _ c.2.2 (d3 c.1).2.2 _ _ _)) (oFn_1 (fun q => by omega)))
                    · cases h
                · rw [k_ck_n4 c.1] at h
                  rw [k_em_4 c.1]
                  rw [Int.toNat_natCast] at h
                  split at h
                  · cases h
                  · rename_i nn
                    split at h
                    · cases h
                    · obtain ⟨is, h1, h2⟩ := k_b_inv h
                      obtain ⟨q', h3, h4⟩ := k_b_inv h2
                      refine oFn_a (k_ea_F (fun i i0 i1 p => ?_)) (oFn_1 (fun _ => ?_))
                      · obtain ⟨s', y', h5, h6⟩ := k_ca_inv (fun a s y h => kR_ck frR h) h3 i i0 (by omega)
                        exact ih _ _ _ _ _ h5 L _ _ _ (c.2.2.2.2.2.2 i i0 (by omega)) (d4 c.1 i i0 (by omega)) _ _ _
                      · rcases k_ff_in (M := M) (w := M 97 r) (n := fs) (f := 0) with z | z
                        · omega
                        · omega
                · obtain ⟨c1 | c1 | c1, cv⟩ := c
                  · rw [k_ck_n6 c1] at h
                    obtain ⟨a, h1, h2⟩ := k_b_inv h
                    rw [k_em_6 c1]
                    exact oFn_a (ih _ _ _ _ _ (k_nm_inv h1).1 L _ _ _ cv (d6 (.inl c1)) _ _ _) (oFn_1 (fun q => by omega))
                  · rw [k_ck_n7 c1] at h
                    rw [k_em_7 c1]
                    exact oFn_a (ih _ _ _ _ _ (k_nm_inv h).1 L _ _ _ cv (d6 (.inr (.inl c1))) _ _ _) (oFn_1 (fun q => by omega))
                  · exact absurd c1 k15
                · obtain ⟨c1, cv1, cv2⟩ := c
                  rw [k_ck_ne hp (by omega)] at h
                  obtain ⟨a, h1, h2⟩ := k_b_inv h
                  rw [if_neg (by omega)] at h2
                  obtain ⟨b, h3, h4⟩ := k_b_inv h2
                  have d := d8 c1
                  rw [k_em_8 (by omega)]
                  exact oFn_a (oFn_a (ih _ _ _ _ _ (k_nm_inv h1).1 L _ _ _ cv1 d.1 _ _ _) (ih _ _ _ _ _ (k_nm_inv h3).1 L _ _ _ cv2 d.2 _ _ _)) (oFn_1 (fun q => by omega))
                · rw [k_ck_ne hp (by omega)] at h
                  obtain ⟨a, h1, h2⟩ := k_b_inv h
                  rw [k_em_11 c.1]
                  exact oFn_a (ih _ _ _ _ _ (k_nm_inv h1).1 L _ _ _ c.2.2 (d6 (.inr (.inr (.inl c.1)))) _ _ _) (oFn_1 (fun q => by omega))
                · exact absurd c.1 k13
                · exact absurd c.1 k14
                · rw [k_ck_n16 c.1] at h
                  obtain ⟨tt, h1, h2⟩ := k_b_inv h
                  obtain ⟨a, h3, h4⟩ := k_b_inv h2
                  rw [k_em_15 (.inr c.1)]
                  exact ih _ _ _ _ _ h3 L _ _ _ c.2.2 (d6 (.inr (.inr (.inr (.inr c.1))))) _ _ _
end
section
variable {M0 : Nat → Int → Int} {fs : Nat} {nf : Int → Int} {how : Int}
/-- functions that are called are there -/
theorem run_fF {s : k_s} {cd : Int → Int → Option (Int × Int)} {pn : Int → Int} (hk : k_ch M0 fs (fun g => 2 * (M0 95 g).toNat + 2) (k_s0 nf) = .inr s) (hF : ∀ g : Int, 0 ≤ g → g < (fs : Int) → fOK M0 fs how cd pn s.2.2.2 g) : ∀ g : Int, 0 ≤ g → g < fs → oFn fs (lAc M0 fs s.2.2.2 g) := fun g g0 g1 => by
  obtain ⟨sg, y, x, D, t, w, n, m, L, ⟨-, f2, -⟩, ⟨f3, -, -⟩, -, f4, f5, -⟩ := hF g g0 g1
  have vd := k_ch_vd hk g g0 g1 f4.1 f5 f3
  exact oFn_a (k_ck_F _ _ _ _ _ _ f2 L t w _ f3 vd _ _ _) (oFn_1 (fun q => by omega))
theorem aCd_15 {s2 : Int → Int} (hF : ∀ g : Int, 0 ≤ g → g < fs → oFn fs (lAc M0 fs s2 g)) {f x n : Int} (h : aCd M0 fs s2 how f x = some (15, n)) : 0 ≤ n ∧ n < fs := by
  obtain ⟨⟨f0, f1, x0⟩, y, hy, e1, e2⟩ := aCd_inv h
  rw [e2]
  refine hF f f0 f1 y (List.mem_of_getElem? hy) ?_
  unfold m_ad at e1
  by_cases w : how = 1
  · rw [if_pos w] at e1; exact e1.symm
  · rw [if_neg w] at e1
    by_cases y11 : y.1 = 11
    · rw [if_pos y11] at e1; omega
    · rw [if_neg y11] at e1
      by_cases y13 : y.1 = 13
      · rw [if_pos y13] at e1; omega
      · rw [if_neg y13] at e1; exact e1.symm
end

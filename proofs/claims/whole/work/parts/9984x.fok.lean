/-! AN ACCEPTED PROGRAM: each function was checked, and stands as code -/
def oN (l : List (Int × Int)) : Prop := ∀ x ∈ l, x.1 = 0 ∨ x.1 = 7 → 0 ≤ x.2 ∧ x.2 ≤ 999
theorem oN_a {a b : List (Int × Int)} (h1 : oN a) (h2 : oN b) : oN (a ++ b) := fun x hx => (List.mem_append.mp hx).elim (h1 x) (h2 x)
theorem oN_c {x : Int × Int} {b : List (Int × Int)} (h1 : x.1 = 0 ∨ x.1 = 7 → 0 ≤ x.2 ∧ x.2 ≤ 999) (h2 : oN b) : oN (x :: b) := fun y hy => by
  rcases List.mem_cons.mp hy with rfl | hy
  · exact h1
  · exact h2 y hy
theorem oN_n : oN [] := fun _ h => by cases h
theorem oN_1 {a b : Int} (h : a = 0 ∨ a = 7 → 0 ≤ b ∧ b ≤ 999) : oN [(a, b)] := oN_c h oN_n
theorem k_ea_N {M : Nat → Int → Int} {em : Int → Int → List (Int × Int)} : ∀ {n : Nat} {a p : Int}, (∀ i : Int, 0 ≤ i → i < n → ∀ p, oN (em (M 118 (a + i)) p)) → oN (k_ea M em a n p)
  | 0, _, _, _ => oN_n
  | n + 1, a, p, h => by
    refine oN_a ?_ (k_ea_N (fun i i0 i1 p => ?_))
    · have := h 0 (by omega) (by omega) p
      rw [Int.add_zero] at this
      exact this
    · rw [show a + 1 + i = a + (i + 1) by omega]
      exact h (i + 1) (by omega) (by omega) p
theorem k_em_N {M : Nat → Int → Int} {fs : Nat} {fr : Int → Int} : ∀ (n L : Nat) (W : List Int) (r t w p : Int) (m : Nat), vn M L r t w → vd M fr L r m → oN (k_em M fs fr n W r p)
  | 0, _, _, _, _, _, _, _, _, _ => oN_n
  | n + 1, 0, _, _, _, _, _, _, h, _ => h.elim
  | n + 1, L + 1, W, r, t, w, p, m, ⟨_, _, hc⟩, ⟨d2, d3, d4, d6, d8, d13, d14⟩ => by
    have ih := k_em_N (M := M) (fs := fs) (fr := fr) n L
    rcases hc with c | c | c | c | c | c | c | c | c | c | c | c
    · rw [k_em_0 c.1]; exact oN_1 (fun _ => c.2)
    · rw [k_em_1 c]; exact oN_1 (fun q => by omega)
    · rw [k_em_5 c]; exact oN_c (fun q => by dsimp only at q; omega) (oN_1 (fun q => by omega))
    · have f0 := (d2 c.1).1
      rw [k_em_2 c.1]; exact oN_c (fun q => by dsimp only at q; omega) (oN_a (ih _ _ _ _ _ _ c.2 (d2 c.1).2) (oN_1 (fun q => by omega)))
    · have f0 := (d3 c.1).1
      rw [k_em_3 c.1]; exact oN_c (fun q => by dsimp only at q; omega) (oN_a (oN_a (ih _ _ _ _ _ _ c.2.1 (d3 c.1).2.1) (ih _ _ _ _ _ _ c.2.2 (d3 c.1).2.2)) (oN_1 (fun q => by omega)))
    · rw [k_em_4 c.1]
      refine oN_a (k_ea_N (fun i i0 i1 p => ?_)) (oN_1 (fun q => by omega))
      exact ih _ _ _ _ _ _ (c.2.2.2.2.2.2 i i0 (by omega)) (d4 c.1 i i0 (by omega))
    · obtain ⟨c1 | c1 | c1, cv⟩ := c
      · rw [k_em_6 c1]; exact oN_a (ih _ _ _ _ _ _ cv (d6 (.inl c1))) (oN_1 (fun q => by omega))
      · rw [k_em_7 c1]; exact oN_a (ih _ _ _ _ _ _ cv (d6 (.inr (.inl c1)))) (oN_1 (fun q => by omega))
      · rw [k_em_15 (.inl c1)]; exact ih _ _ _ _ _ _ cv (d6 (.inr (.inr (.inr (.inl c1)))))
    · obtain ⟨c1, cv1, cv2⟩ := c
      have d := d8 c1
      by_cases q : M 96 r = 12
      · rw [k_em_12 q]; exact oN_a (ih _ _ _ _ _ _ cv1 d.1) (oN_c (fun q => by dsimp only at q; omega) (ih _ _ _ _ _ _ cv2 d.2))
      · rw [k_em_8 (by omega)]; exact oN_a (oN_a (ih _ _ _ _ _ _ cv1 d.1) (ih _ _ _ _ _ _ cv2 d.2)) (oN_1 (fun q => by omega))
    · rw [k_em_11 c.1]; exact oN_a (ih _ _ _ _ _ _ c.2.2 (d6 (.inr (.inr (.inl c.1))))) (oN_1 (fun _ => by omega))
    · rw [k_em_13 c.1]; exact oN_a (ih _ _ _ _ _ _ c.2.2.1 (d13 c.1).2.1) (oN_c (fun q => by dsimp only at q; omega) (ih _ _ _ _ _ _ c.2.2.2 (d13 c.1).2.2))
    · rw [k_em_14 c.1]
      have d := d14 c.1
      unfold e_if
      exact oN_a (oN_a (oN_a (oN_a (oN_a (ih _ _ _ _ _ _ c.2.2.1 d.1) (ih _ _ _ _ _ _ c.2.2.2.1 d.2.1)) (oN_1 (fun q => by omega))) (ih _ _ _ _ _ _ c.2.2.2.2.1 d.2.2.1)) (oN_1 (fun q => by omega))) (ih _ _ _ _ _ _ c.2.2.2.2.2 d.2.2.2)
    · rw [k_em_15 (.inr c.1)]; exact ih _ _ _ _ _ _ c.2.2 (d6 (.inr (.inr (.inr (.inr c.1)))))
theorem nf_hp {M : Nat → Int → Int} : ∀ {n : Nat} {b : Int} {E : k_E} {s : k_s} {y : k_E × k_s}, k_hp M b n E s = .inr y → y.2.2.2.2 = s.2.2.2
  | 0, _, _, _, _, h => by cases h; rfl
  | n + 1, b, E, s, y, h => by
    obtain ⟨t, h1, h2⟩ := k_b_inv (show k_b (k_rs M E (-1) (M 92 b)) _ = .inr y from h)
    obtain ⟨z, h3, h4⟩ := k_b_inv h2
    rw [nf_hp h4, nf_gv h3]
theorem nf_hd {M : Nat → Int → Int} {f : Int} {s : k_s} {y : k_E × k_s × k_h} (h : k_hd M f s = .inr y) : y.2.1.2.2.2 = s.2.2.2 := by
  obtain ⟨ps, s1, h1, h3, h5, h7⟩ := hd_inv h
  have := nf_hp h5
  dsimp only at this
  rw [this, nf_afs h3]
theorem c2_nf {M : Nat → Int → Int} {fs : Int} {N : Int → Nat} : ∀ {n : Nat} {f : Int} {s s' : k_s}, (∀ g, f ≤ g → g < f + n → ∃ D : Int → Prop, (∀ x, D x → 700 * g ≤ x ∧ x < 700 * (g + 1)) ∧ ∃ L : Nat, un M L (M 95 g) D) → k_c2 M fs N f n s = .inr s' → ∀ z, z < 700 * f → s'.2.2.2 z = s.2.2.2 z
  | 0, f, s, s', _, h, z, _ => by cases h; rfl
  | n + 1, f, s, s', hu, h, z, hz => by
    unfold k_c2 at h
    split at h
    · cases h
    · rename_i y hy
      split at h
      · cases h
      · rename_i x hx
        obtain ⟨D, d1, L, d2⟩ := hu f (Int.le_refl _) (by omega)
        rw [c2_nf (fun g g0 g1 => hu g (by omega) (by omega)) h z (by omega), nf_ck _ d2 hx z (fun q => by have := d1 z q; omega), nf_hd hy]
theorem c2_ac {M : Nat → Int → Int} {fs : Int} {N : Int → Nat} : ∀ {n : Nat} {f : Int} {s s' : k_s}, k_c2 M fs N f n s = .inr s' → s'.1 4 = 1 → s.1 4 = 1
  | 0, f, s, s', h, ha => by cases h; exact ha
  | n + 1, f, s, s', h, ha => by
    unfold k_c2 at h
    split at h
    · cases h
    · rename_i y hy
      split at h
      · cases h
      · rename_i x hx
        exact kR_hd acR hy (kR_ck acR hx (c2_ac h ha))
theorem c2_fn {M : Nat → Int → Int} {fs : Int} {N : Int → Nat} {DD : Int → Int → Prop} : ∀ {n : Nat} {f : Int} {s s' : k_s}, (∀ g, f ≤ g → g < f + n → (∀ x, DD g x → 700 * g ≤ x ∧ x < 700 * (g + 1)) ∧ ∃ L : Nat, un M L (M 95 g) (DD g)) → k_c2 M fs N f n s = .inr s' → s'.1 4 = 1 → ∀ g, f ≤ g → g < f + n → ∃ sg y x, k_hd M g sg = .inr y ∧ k_ck M fs g (N g) (some y.2.2) (M 95 g) y.1 y.2.1 = .inr x ∧ x.1.1 4 = 1 ∧ ∀ z, DD g z → s'.2.2.2 z = x.1.2.2.2 z
  | 0, f, s, s', _, _, _, g, g0, g1 => by omega
  | n + 1, f, s, s', hu, h, ha, g, g0, g1 => by
    unfold k_c2 at h
    split at h
    · cases h
    · rename_i y hy
      split at h
      · cases h
      · rename_i x hx
        have hu' : ∀ g, f + 1 ≤ g → g < f + 1 + n → (∀ x, DD g x → 700 * g ≤ x ∧ x < 700 * (g + 1)) ∧ ∃ L : Nat, un M L (M 95 g) (DD g) := fun g g0 g1 => hu g (by omega) (by omega)
        by_cases e : g = f
        · subst e
          refine ⟨s, y, x, hy, hx, c2_ac h ha, fun z hz => ?_⟩
          exact c2_nf (fun g g0 g1 => ⟨DD g, hu' g g0 g1⟩) h z (by have := (hu g (Int.le_refl _) (by omega)).1 z hz; omega)
        · exact c2_fn hu' h ha g (by omega) (by omega)
theorem dY_sy {n : Int} {M M' : Nat → Int → Int} (h : dY n M M') : dY n M' M := by
  obtain ⟨⟨a1, a2, a3⟩, a4, a5, a6, a7, a8, a9⟩ := h
  exact ⟨⟨fun x i p q r s t u => (a1 x i p q r s t u).symm, fun i p => (a2 i p).symm, fun x i p q => (a3 x i p q).symm⟩, fun x i p q r => (a4 x i p q r).symm, fun x i p q r => (a5 x i p q r).symm, fun x i p q r => (a6 x i p q r).symm, fun x i p q r => (a7 x i p q r).symm, fun x i p q r => (a8 x i p q r).symm, fun i p => (a9 i p).symm⟩
/-- the code of a program, as it is run -/
noncomputable def aCd (M0 : Nat → Int → Int) (fs : Nat) (nf : Int → Int) (how : Int) (f i : Int) : Option (Int × Int) := if 0 ≤ f ∧ f < fs ∧ 0 ≤ i then ((lAc M0 fs nf f)[i.toNat]?).map (fun x => (m_ad how x.1, x.2)) else none
theorem m_C_of {cd : Int → Int → Option (Int × Int)} {how f : Int} : ∀ {l : List (Int × Int)} {p : Int}, (∀ (i : Nat) x, l[i]? = some x → cd f (p + i) = some (m_ad how x.1, x.2)) → m_C cd how f p l
  | [], _, _ => trivial
  | x :: l, p, h => by
    refine ⟨?_, m_C_of (fun i y hy => ?_)⟩
    · have := h 0 x rfl
      rw [show p + ((0 : Nat) : Int) = p by omega] at this
      exact this
    · have := h (i + 1) y hy
      rw [show p + ((i + 1 : Nat) : Int) = p + 1 + i by omega] at this
      exact this
theorem aCd_inv {M0 : Nat → Int → Int} {fs : Nat} {nf : Int → Int} {how f i op n : Int} (h : aCd M0 fs nf how f i = some (op, n)) : (0 ≤ f ∧ f < fs ∧ 0 ≤ i) ∧ ∃ x, (lAc M0 fs nf f)[i.toNat]? = some x ∧ op = m_ad how x.1 ∧ n = x.2 := by
  unfold aCd at h
  split at h
  · rename_i q
    refine ⟨q, ?_⟩
    cases e : (lAc M0 fs nf f)[i.toNat]? with
    | none => rw [e] at h; cases h
    | some x =>
      rw [e] at h
      simp only [Option.map_some, Option.some.injEq, Prod.mk.injEq] at h
      exact ⟨x, rfl, h.1.symm, h.2.symm⟩
  · cases h
theorem mL_at {M : Nat → Int → Int} {b : Int} : ∀ {l : List (Int × Int)} {p : Int} {i : Nat} {x : Int × Int}, mL M b p l → l[i]? = some x → mX M (b + (p + i)) x
  | [], _, _, _, _, h => by cases h
  | y :: l, p, 0, x, ⟨h1, _⟩, h => by
    have h : some y = some x := h
    injection h with h
    rw [← h, show p + ((0 : Nat) : Int) = p by omega]
    exact h1
  | y :: l, p, i + 1, x, ⟨_, h2⟩, h => by
    have := mL_at (i := i) h2 h
    rw [show p + ((i + 1 : Nat) : Int) = p + 1 + i by omega]
    exact this
section
variable {ρ : Nat → Option xk} {e sl : Nat} {M M0 : Nat → Int → Int} {R : Nat → Int → Option Nat} {fs : Nat} {nf : Int → Int} {how : Int}
/-- all that run needs of an accepted program -/
theorem run_fn {s : k_s} (h8 : fs ≤ 8) (hf : fnP (ρ, e, M, R, sl)) (h9 : M 0 9 = fs) (hY : dY fs M0 M) (hN : ∀ g : Int, 0 ≤ g → g < fs → dNf M0 g) (hk : k_ch M0 fs (fun g => 2 * (M0 95 g).toNat + 2) (k_s0 nf) = .inr s) (ha : s.1 4 = 1) : (∀ g : Int, 0 ≤ g → g < (fs : Int) → fOK M0 fs how (aCd M0 fs s.2.2.2 how) (M0 93) s.2.2.2 g) ∧ ∀ g : Int, 0 ≤ g → g < fs → oN (lAc M0 fs s.2.2.2 g) ∧ oK (lAc M0 fs s.2.2.2 g) := by
  have hR : ∀ g : Int, 0 ≤ g → g < fs → ∃ T F z, z ≤ 500 ∧ fR g (mf g M0) T F z := fun g g0 g1 => by
    obtain ⟨-, -, -, -, a5, a6⟩ := trS_of hf (by omega) (g := g.toNat) (by omega)
    have e : ((g.toNat : Nat) : Int) = g := by omega
    rw [e] at a6
    exact ⟨_, _, _, a5.2, fR_mf ⟨g0, by omega⟩ a6 (dY_sy hY)⟩
  have hU : ∀ g : Int, 0 ≤ g → g < fs → ∃ D : Int → Prop, (∀ x, D x → 700 * g ≤ x ∧ x < 700 * (g + 1)) ∧ ∀ m : Nat, M0 95 g < m → un M0 m (M0 95 g) D := fun g g0 g1 => by
    obtain ⟨T, F, z, -, h⟩ := hR g g0 g1
    exact fR_un h
  have hV : ∀ g : Int, 0 ≤ g → g < fs → vF M0 g ∧ 0 ≤ M0 95 g ∧ ∃ t w, vn M0 ((M0 95 g).toNat + 1) (M0 95 g) t w ∧ t ≤ 689 ∧ w ≤ 290 := fun g g0 g1 => by
    obtain ⟨T, F, z, hz, h⟩ := hR g g0 g1
    exact rV_of (by omega) hz h
  have hD : ∃ DD : Int → Int → Prop, ∀ g : Int, 0 ≤ g → g < fs → (∀ x, DD g x → 700 * g ≤ x ∧ x < 700 * (g + 1)) ∧ ∀ m : Nat, M0 95 g < m → un M0 m (M0 95 g) (DD g) := by
    refine ⟨fun g => if h : 0 ≤ g ∧ g < fs then (hU g h.1 h.2).choose else fun _ => True, fun g g0 g1 => ?_⟩
    dsimp only
    rw [dif_pos ⟨g0, g1⟩]
    exact (hU g g0 g1).choose_spec
  obtain ⟨DD, hD⟩ := hD
  have hk2 := hk
  unfold k_ch at hk2
  split at hk2
  · cases hk2
  rename_i s1 _
  have fn := c2_fn (DD := DD) (fun g g0 g1 => ⟨(hD g g0 (by omega)).1, _, (hD g g0 (by omega)).2 ((M0 95 g).toNat + 1) (by have := (hV g g0 (by omega)).2.1; omega)⟩) hk2 ha
  have ok : ∀ g : Int, 0 ≤ g → g < fs → oN (lAc M0 fs s.2.2.2 g) ∧ oK (lAc M0 fs s.2.2.2 g) := fun g g0 g1 => by
    obtain ⟨v1, v2, t, w, v3, -, -⟩ := hV g g0 g1
    have vd := k_ch_vd hk g g0 g1 v1.1.1 v1.2.1 v3
    exact ⟨oN_a (k_em_N _ _ _ _ _ _ _ _ v3 vd) (oN_1 (fun q => by omega)), oK_a (k_em_K _ _ _ _ _ _ _ _ v3 vd) (oK_1 (by decide))⟩
  refine ⟨fun g g0 g1 => ?_, ok⟩
  obtain ⟨sg, y, x, f1, f2, f3, f4⟩ := fn g g0 (by omega)
  obtain ⟨v1, v2, t, w, v3, -, -⟩ := hV g g0 g1
  refine ⟨sg, y, x, DD g, t, w, _, (M0 95 g).toNat + 1, (M0 95 g).toNat + 1, ⟨f1, f2, f3⟩, ⟨v3, Nat.le_refl _, (hD g g0 g1).2 _ (by omega)⟩, f4, v1.1, v1.2.1, hN g g0 g1, ?_, rfl⟩
  refine m_C_of (fun i x hx => ?_)
  unfold aCd
  rw [if_pos ⟨g0, g1, by omega⟩, show (0 + (i : Int)).toNat = i by omega]
  have hx' : (lAc M0 fs s.2.2.2 g)[i]? = some x := by
    unfold lAc
    rw [Int.toNat_natCast] at hx
    exact hx
  rw [hx']
  rfl
/-- the reference's code -/
theorem run_rcd {s2 : Int → Int} (hw : how = 0 ∨ how = 1) (h8 : fs ≤ 8) (hc : ∀ f : Int, 0 ≤ f → f < fs → (M 156 f = (lAc M0 fs s2 f).length ∧ (lAc M0 fs s2 f).length ≤ 500) ∧ mL M (1200 * f) 0 (lAc M0 fs s2 f)) (hN : ∀ g : Int, 0 ≤ g → g < fs → oN (lAc M0 fs s2 g)) : rCd (aCd M0 fs s2 how) how M := by
  intro f x op n h
  obtain ⟨⟨f0, f1, x0⟩, y, hy, e1, e2⟩ := aCd_inv h
  obtain ⟨⟨l1, l2⟩, l3⟩ := hc f f0 f1
  have lt := (List.getElem?_eq_some_iff.mp hy).1
  have m := mL_at l3 hy
  rw [show 1200 * f + (0 + (x.toNat : Int)) = 1200 * f + x by omega] at m
  obtain ⟨m1, m2, m3, m4, m5⟩ := m
  have hn := hN f f0 f1 y (List.mem_of_getElem? hy)
  refine ⟨by omega, hw, ?_, fun q => ?_, fun q => ?_, ?_, fun q => ?_⟩
  · omega
  · rw [e1]
    unfold m_ad
    rw [if_pos q.1]
    omega
  · rw [e1]
    unfold m_ad
    rcases hw with w | w
    · rw [if_neg (by omega)]
      rcases m5 with z | z
      · rw [if_neg (by omega), if_neg (by omega)]
        omega
      · by_cases y11 : y.1 = 11
        · rw [if_pos y11]; omega
        · rw [if_neg y11, if_pos (by omega)]; omega
    · rw [if_pos w]
      omega
  · rw [e2]; exact m2
  · rw [e2]
    refine hn ?_
    rw [e1] at q
    unfold m_ad at q
    by_cases w : how = 1
    · rw [if_pos w] at q; exact q
    · rw [if_neg w] at q
      by_cases y11 : y.1 = 11
      · rw [if_pos y11] at q; omega
      · rw [if_neg y11] at q
        by_cases y13 : y.1 = 13
        · rw [if_pos y13] at q; omega
        · rw [if_neg y13] at q; exact q
/-- the class's code -/
theorem run_ccd {s2 : Int → Int} (hw : how = 0 ∨ how = 1) (h8 : fs ≤ 8) (h9 : M 0 9 = fs) (h11 : M 0 11 = 1) (h14 : M 8 14 = 1) (hk : iv_k ρ e M R) (hc : ∀ f : Int, 0 ≤ f → f < fs → (M 156 f = (lAc M0 fs s2 f).length ∧ (lAc M0 fs s2 f).length ≤ 500) ∧ mL M (1200 * f) 0 (lAc M0 fs s2 f)) (hN : ∀ g : Int, 0 ≤ g → g < fs → oN (lAc M0 fs s2 g)) : cCd (aCd M0 fs s2 how) how ρ M R := by
  intro f x op n h
  have hr := run_rcd hw h8 hc hN f x op n h
  obtain ⟨⟨f0, f1, x0⟩, y, hy, e1, e2⟩ := aCd_inv h
  obtain ⟨⟨l1, l2⟩, l3⟩ := hc f f0 f1
  have lt := (List.getElem?_eq_some_iff.mp hy).1
  have m := mL_at l3 hy
  rw [show 1200 * f + (0 + (x.toNat : Int)) = 1200 * f + x by omega] at m
  obtain ⟨m1, m2, m3, m4, m5⟩ := m
  obtain ⟨-, q, q1, q2, q3, q4, q5, q6⟩ := hk h11 h14 f f0 (by omega)
  have q4 : M 39 f = 2 * M 156 f := q4
  obtain ⟨c1, c2, c3⟩ := q6 x x0 (by show x < M 156 f; omega)
  have c1 : M (q + 174) (2 * x) = M 157 (1200 * f + x) + M 159 (1200 * f + x) := c1
  have c2 : M (q + 174) (2 * x + 1) = M 158 (1200 * f + x) := c2
  refine ⟨by omega, hw, ⟨q, q1, q3, by omega, ?_, ?_⟩, hr.2.2.2.2.2.2⟩
  · unfold v_code
    rw [if_neg (by omega), c1, m1, e1]
    unfold m_ad
    rcases hw with w | w
    · rw [if_neg (show ¬ how = 1 by omega)]
      by_cases y11 : y.1 = 11
      · rw [if_pos (by omega), if_pos y11]; omega
      · rw [if_neg y11]
        by_cases y13 : y.1 = 13
        · rw [if_pos (by omega), if_pos y13]; omega
        · rw [if_neg (by omega), if_neg y13]
    · rw [if_neg (by omega), if_pos w]
  · unfold v_code
    rw [if_neg (by omega), if_neg (by omega), c2, m2, e2]
end

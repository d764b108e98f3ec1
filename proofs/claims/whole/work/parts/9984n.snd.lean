/-! RUNS AS IT SHOULD: calls -/
/-- what is given lies on the pile -/
def aV (Hd : Int → Prop) (S : m_T) (τ : Int → Int) : Int → List (Int × (Int → Int)) → Prop
  | _, [] => True
  | h, x :: l => vO Hd S x.1 (S 0 h) (u_v τ x.2) ∧ aV Hd S τ (h + 1) l
/-- it is of the kinds that are asked for -/
def aK (M : Nat → Int → Int) : Int → List (Int × (Int → Int)) → Prop
  | _, [] => True
  | b, x :: l => ((x.1 = 0 ∨ x.1 = 1) ∧ ((x.1 = 1) ↔ (M 113 (M 92 b) = 3))) ∧ aK M (b + 1) l
theorem iNu_of {M : Nat → Int → Int} {nu σ : Int → Int} : ∀ {l : List (Int → Int)} {b : Int}, (∀ i : Nat, i < l.length → nu (M 87 (b + i)) = u_v σ (l.getD i k_0)) → iNu M nu σ b l
  | [], _, _ => trivial
  | x :: l, b, h => by
    refine ⟨?_, iNu_of (fun i hi => ?_)⟩
    · have := h 0 (by rw [List.length_cons]; omega)
      rw [show b + ((0 : Nat) : Int) = b by omega] at this
      exact this
    · have := h (i + 1) (by rw [List.length_cons]; omega)
      rw [show b + ((i + 1 : Nat) : Int) = b + 1 + i by omega] at this
      exact this
theorem vN_of {M : Nat → Int → Int} {nu σ : Int → Int} : ∀ {l : List (Int × (Int → Int))} {b : Int}, (∀ i : Nat, i < l.length → nu (M 91 (b + i)) = u_v σ (l.getD i (0, k_0)).2) → vN M nu σ b l
  | [], _, _ => trivial
  | x :: l, b, h => by
    refine ⟨?_, vN_of (fun i hi => ?_)⟩
    · have := h 0 (by rw [List.length_cons]; omega)
      rw [show b + ((0 : Nat) : Int) = b by omega] at this
      exact this
    · have := h (i + 1) (by rw [List.length_cons]; omega)
      rw [show b + ((i + 1 : Nat) : Int) = b + 1 + i by omega] at this
      exact this
theorem vTy_at {M : Nat → Int → Int} {nu σ : Int → Int} : ∀ {l : List (Int × (Int → Int))} {b : Int}, vTy M nu σ b l → vN M nu σ b l → ∀ j : Int, 0 ≤ j → j < l.length → tS M nu (M 92 (b + j)) (nu (M 91 (b + j)))
  | [], _, _, _, j, j0, j1 => by rw [List.length_nil] at j1; omega
  | x :: l, b, ⟨t1, t2⟩, ⟨n1, n2⟩, j, j0, j1 => by
    rw [List.length_cons] at j1
    by_cases e : j = 0
    · subst e
      rw [Int.add_zero, n1]
      exact t1
    · rw [show b + j = b + 1 + (j - 1) by omega]
      exact vTy_at t2 n2 (j - 1) (by omega) (by omega)
theorem aV_at {M : Nat → Int → Int} {nu τ : Int → Int} {Hd : Int → Prop} {S : m_T} : ∀ {l : List (Int × (Int → Int))} {b h : Int}, aV Hd S τ h l → aK M b l → vN M nu τ b l → ∀ j : Int, 0 ≤ j → j < l.length → vO Hd S (if M 113 (M 92 (b + j)) = 3 then 1 else 0) (S 0 (h + j)) (nu (M 91 (b + j)))
  | [], _, _, _, _, _, j, j0, j1 => by rw [List.length_nil] at j1; omega
  | x :: l, b, h, ⟨a1, a2⟩, ⟨k1, k2⟩, ⟨n1, n2⟩, j, j0, j1 => by
    rw [List.length_cons] at j1
    by_cases e : j = 0
    · subst e
      rw [Int.add_zero, Int.add_zero, n1]
      have ex : x.1 = if M 113 (M 92 b) = 3 then 1 else 0 := by
        by_cases c : M 113 (M 92 b) = 3
        · rw [if_pos c]; exact k1.2.mpr c
        · rw [if_neg c]
          rcases k1.1 with z | z
          · exact z
          · exact absurd (k1.2.mp z) c
      rw [← ex]
      exact a1
    · rw [show b + j = b + 1 + (j - 1) by omega, show h + j = h + 1 + (j - 1) by omega]
      exact aV_at a2 k2 n2 (j - 1) (by omega) (by omega)
theorem aV_go {Hd Hd' : Int → Prop} {S S' : m_T} {τ τ' : Int → Int} {v : Int} (hg : hG Hd S Hd' S') (hs : ∀ k, 0 ≤ k → k < v → τ' k = τ k) : ∀ {l : List (Int × (Int → Int))} {h : Int}, (∀ x ∈ l, u_z v x.2) → (∀ j, j < h + l.length → S' 0 j = S 0 j) → aV Hd S τ h l → aV Hd' S' τ' h l
  | [], _, _, _, _ => trivial
  | x :: l, h, hz, hp, ⟨a1, a2⟩ => by
    rw [List.length_cons] at hp
    refine ⟨?_, aV_go hg hs (fun y hy => hz y (List.mem_cons_of_mem _ hy)) (fun j hj => hp j (by omega)) a2⟩
    rw [hp h (by omega), u_v_k (hz x (List.mem_cons_self ..)) hs]
    exact vO_go a1 hg
theorem hQ_len {M : Nat → Int → Int} {f : Int} {E0 : k_E} : ∀ {n : Nat} {E : k_E}, hQ M f n E0 E → E.length = E0.length + n
  | 0, E, h => by rw [show E = E0 from h]; rfl
  | n + 1, E, ⟨row, E', e, h⟩ => by
    rw [e, List.length_cons, hQ_len h]
    omega
theorem eO_0 {Hd : Int → Prop} {S : m_T} {σ : Int → Int} {base ic : Int} : ∀ {E : k_E}, (E.length : Int) ≤ ic → eO Hd S σ base ic E
  | [], _ => trivial
  | x :: l, h => by
    rw [List.length_cons] at h
    exact ⟨fun q => by omega, eO_0 (by omega)⟩
theorem eO_hQ {M : Nat → Int → Int} {f base ic : Int} {Hd : Int → Prop} {S : m_T} {σ nu : Int → Int} {E0 : k_E} (h0 : (E0.length : Int) = ic) : ∀ {n : Nat} {E : k_E}, hQ M f n E0 E → eNu σ nu E → (∀ j : Int, 0 ≤ j → j < n → vO Hd S (if M 113 (M 92 (5 * f + j)) = 3 then 1 else 0) (S 3 (base + j)) (nu (M 91 (5 * f + j))) ∧ S 7 (base + j) = 1) → eO Hd S σ base ic E
  | 0, E, h, _, _ => by
    rw [show E = E0 from h]
    exact eO_0 (by omega)
  | n + 1, E, ⟨row, E', e, h⟩, hn, hl => by
    subst e
    have ln := hQ_len h
    refine ⟨fun _ => ?_, eO_hQ h0 h (fun x hx => hn x (List.mem_cons_of_mem _ hx)) (fun j j0 j1 => hl j j0 (by omega))⟩
    have e1 : (E'.length : Int) - ic = n := by omega
    have := hl n (by omega) (by omega)
    have hr := hn _ (List.mem_cons_self ..)
    dsimp only at hr ⊢
    rw [e1, hr, show 1 + (if M 113 (M 92 (5 * f + (n : Int))) = 3 then (1 : Int) else 0) - 1 = if M 113 (M 92 (5 * f + (n : Int))) = 3 then 1 else 0 by omega]
    exact this
section
variable (M : Nat → Int → Int) (fs how : Int) (cd : Int → Int → Option (Int × Int)) (pn : Int → Int) (nf : Int → Int)
/-- function g was checked and stands as code -/
def fOK (g : Int) : Prop := ∃ (sg : k_s) (y : k_E × k_s × k_h) (x : k_v) (D : Int → Prop) (t w : Int) (n m L : Nat), (k_hd M g sg = .inr y ∧ k_ck M fs g n (some y.2.2) (M 95 g) y.1 y.2.1 = .inr x ∧ x.1.1 4 = 1) ∧ (vn M L (M 95 g) t w ∧ L ≤ m ∧ un M L (M 95 g) D) ∧ (∀ z, D z → nf z = x.1.2.2.2 z) ∧ (0 ≤ M 88 g ∧ M 88 g ≤ 4) ∧ (0 ≤ M 93 g ∧ M 93 g ≤ 5) ∧ dNf M g ∧ m_C cd how g 0 (k_em M fs.toNat nf m (k_pw M g (M 93 g).toNat) (M 95 g) 0 ++ [(22, 0)]) ∧ pn g = M 93 g
end
section
variable {M : Nat → Int → Int} {fs how : Int} {cd : Int → Int → Option (Int × Int)} {pn : Int → Int} {Z : m_T → Prop} {nf : Int → Int} {k L m n : Nat} {w : Option k_h} {r p : Int} {E : k_E} {s : k_s} {y : k_v} {D : Int → Prop} {c f h : Int} {σ : Int → Int} {Hd : Int → Prop} {S : m_T}
theorem sd_body {g : Int} {nu : Int → Int} (ih : ∀ L w, mOK M fs how cd pn Z nf k L w) (hg : fOK M fs how cd pn nf g) (hp : pH M nu 0 0 (M 89 g) (M 90 g).toNat) (ht : ∀ j : Int, 0 ≤ j → j < M 93 g → tS M nu (M 92 (5 * g + j)) (nu (M 91 (5 * g + j)))) (hl : ∀ j : Int, 0 ≤ j → j < M 93 g → vO Hd S (if M 113 (M 92 (5 * g + j)) = 3 then 1 else 0) (S 3 (16 * (c - 1) + j)) (nu (M 91 (5 * g + j))) ∧ S 7 (16 * (c - 1) + j) = 1) (hI' : hI Hd S) (hV : mV S c g 0 h) (K : ∀ k', k' ≤ k → ∀ S' Hd' x, mV S' c g x (h + 1) → cd g x = some (22, 0) → mQ c h (16 * (c - 1)) S S' → hG Hd S Hd' S' → hI Hd' S' → (M 113 (M 94 g) = 3 → Hd' (S' 0 h) ∧ tS M nu (M 94 g) (S' 4 (S' 0 h))) → (M 113 (M 94 g) ≠ 3 → tS M nu (M 94 g) (S' 0 h)) → m_G cd pn Z k' S') : m_G cd pn Z k S := by
  obtain ⟨sg, y, x, D, t, w, n, m, L, ⟨g1, g2, g3⟩, ⟨g4, g5, g6⟩, g7, g8, g9, g10, g11, g12⟩ := hg
  obtain ⟨i1, i2, i3, i4, i5, i6⟩ := hd_z g8 g1
  obtain ⟨σ, s1, s2⟩ := hd_sem (nu := nu) g8 g9.1 g1 hp (fun j j0 j1 => ⟨ht j j0 j1, fun q => by
    have := (hl j j0 j1).1
    rw [if_pos q] at this
    have o := this.1 rfl
    rw [← o.2]
    exact (hI_r hI' o.1).2.2.1⟩)
  obtain ⟨pc1, pc2, -⟩ := m_C_app.mp g11
  try dsimp only at pc2
  rw [m_ad_o (by decide) (by decide)] at pc2
  obtain ⟨e1, e2⟩ := k_hd_eL g8.1 g1
  obtain ⟨ps, s0, -, -, -, hrs⟩ := hd_inv g1
  have l0 : ((k_hn M (4 * g) 0 (M 88 g).toNat []).length : Int) = M 88 g := by
    rw [k_hn_ln, List.length_nil]
    omega
  refine ih L (some y.2.2) m n (M 95 g) 0 y.1 y.2.1 x D c g h σ Hd S ⟨⟨⟨t, w, g4⟩, g5, g6⟩, ⟨g2, g3⟩, g7, ⟨i1, i2, i4, g8.1, i5, by omega⟩, by rw [e1]; exact pc1, fun t' e => by cases e; exact i3⟩ ⟨s1, eO_hQ l0 i6 s2 (fun j j0 j1 => hl j j0 (by omega)), hI', hV⟩ (fun k' hk' S' q => ?_)
  rw [e1] at q
  obtain ⟨τ, Hd', a1, a2, a3, a4, a5, a6, a7⟩ := q
  have eN2 : eNu τ nu y.1 := eNu_le i2 a5 s2
  have k3 := k_rs_k3 hrs
  refine K k' hk' S' Hd' _ a1 pc2 ⟨a2.1, a2.2.1, a2.2.2.1, fun j hj => a2.2.2.2.1 j (by omega), a2.2.2.2.2⟩ a3 a4 (fun q => ?_) (fun q => ?_)
  · obtain ⟨o1, o2⟩ := a7.1 (k3.mpr q)
    exact ⟨o1, (tO_rs eN2 hrs).1.mp o2⟩
  · exact (tO_rs eN2 hrs).1.mp (a7.2 (fun z => q (k3.mp z)))
theorem sd_args : ∀ (na : Nat) (k : Nat) (a b p h : Int) (s : k_s) (q : k_s × List (Int × (Int → Int))) (D : Int → Prop) (σ : Int → Int) (Hd : Int → Prop) (S : m_T), (∀ k', k' ≤ k → ∀ w, mOK M fs how cd pn Z nf k' L w) → L ≤ m → (∀ i : Int, 0 ≤ i → i < na → ∃ t w, vn M L (M 118 (a + i)) t w) → uL (un M L) (k_agl M a na) D → k_ca M (fun a s => k_ck M fs f n none a E s) a b na s = .inr q → q.1.1 4 = 1 → (∀ x, D x → nf x = q.1.2.2.2 x) → (sZ s ∧ eZ (s.1 0) E ∧ eI (M 88 f) E ∧ 0 ≤ M 88 f ∧ M 88 f ≤ E.length ∧ (E.length : Int) - M 88 f ≤ 10) → m_C cd how f p (k_ea M (k_em M fs.toNat nf m (eL (M 88 f) E)) a na p) → mDy M σ Hd S c f p h E s → (∀ k', k' ≤ k → ∀ S' τ Hd', mDy M τ Hd' S' c f (p + (k_ea M (k_em M fs.toNat nf m (eL (M 88 f) E)) a na p).length) (h + na) E q.1 → mQ c h (16 * (c - 1) + (E.length - M 88 f)) S S' → hG Hd S Hd' S' → (∀ j, 0 ≤ j → j < s.1 0 → τ j = σ j) → aV Hd' S' τ h q.2 → aK M b q.2 → q.2.length = na → zS s q.1 → (∀ x ∈ q.2, u_z (q.1.1 0) x.2) → m_G cd pn Z k' S') → m_G cd pn Z k S
  | 0, k, a, b, p, h, s, q, D, σ, Hd, S, ih, hm, hv, hu, hk, ha, hnf, hz, hC, hD, K => by
    cases hk
    refine K k (Nat.le_refl _) S σ Hd ?_ mQ_rf (hG_rf rfl) (fun _ _ _ => rfl) trivial trivial rfl (zS_rf hz.1) (fun x hx => by cases hx)
    have e1 : p + ((k_ea M (k_em M fs.toNat nf m (eL (M 88 f) E)) a 0 p).length : Int) = p := by
      show p + (([] : List (Int × Int)).length : Int) = p
      rw [List.length_nil]
      omega
    rw [e1, show h + ((0 : Nat) : Int) = h by omega]
    exact hD
  | na + 1, k, a, b, p, h, s, q, D, σ, Hd, S, ih, hm, hv, hu, hk, ha, hnf, hz, hC, hD, K => by
    obtain ⟨D1, D2, v1, v2, v3, v4⟩ := hu
    obtain ⟨y, h1, h2⟩ := k_b_inv (show k_b (k_ck M fs f n none (M 118 a) E s) _ = .inr q from hk)
    by_cases kk : (y.2.1 = 1) ↔ (M 113 (M 92 b) = 3)
    · rw [if_pos kk] at h2
      obtain ⟨q2, h3, h4⟩ := k_b_inv h2
      cases h4
      have ha1 : y.1.1 4 = 1 := kR_ca acR (fun a s y q => kR_ck acR q) h3 ha
      obtain ⟨z1, z2, z3, z4, z5, z6⟩ := hz
      obtain ⟨c1, c2⟩ := m_C_app.mp (show m_C cd how f p (k_em M fs.toNat nf m (eL (M 88 f) E) (M 118 a) p ++ k_ea M (k_em M fs.toNat nf m (eL (M 88 f) E)) (a + 1) na (p + (k_em M fs.toNat nf m (eL (M 88 f) E) (M 118 a) p).length)) from hC)
      obtain ⟨t, w, hv0⟩ := hv 0 (by omega) (by omega)
      rw [Int.add_zero] at hv0
      have hA1 : mAs M fs how cd nf L m n none (M 118 a) p E s y D1 f := ⟨⟨⟨_, _, hv0⟩, hm, v3⟩, ⟨h1, ha1⟩, nf_pt hnf v1 (fun x hx => nf_ca (U := un M L) (fun a D s y ha q x hx => nf_ck n ha q x hx) v4 h3 x (fun z => (v2 x z).2 hx)), ⟨z1, z2, z3, z4, z5, z6⟩, c1, fun t' e => by cases e⟩
      obtain ⟨zs, zv⟩ := mAs_z hA1
      have zv := zv rfl
      refine ih k (Nat.le_refl _) none m n (M 118 a) p E s y D1 c f h σ Hd S hA1 hD (fun k1 hk1 S1 q1 => ?_)
      obtain ⟨τ1, Hd1, dy1, a7, a2, a3, a5⟩ := mDy_go hD z2 (Int.le_refl _) q1
      refine sd_args na k1 (a + 1) (b + 1) _ (h + 1) y.1 q2 D2 τ1 Hd1 S1 (fun k' hk' => ih k' (by omega)) hm (fun i i0 i1 => ?_) v4 h3 ha (fun x hx => hnf x (v2 x hx).1) ⟨zs.2.2.2, eZ_le z2 zs.1, z3, z4, z5, z6⟩ c2 dy1 (fun k' hk' S' τ Hd' b1 b2 b3 b4 b5 b6 b7 b8 b9 => ?_)
      · rw [show a + 1 + i = a + (i + 1) by omega]
        exact hv (i + 1) (by omega) (by omega)
      · refine K k' (by omega) S' τ Hd' ?_ (mQ_tr a2 b2 (Int.le_refl _) (by omega) (Int.le_refl _)) (hG_tr a3 b3) (fun j j0 j1 => ?_) ⟨?_, b5⟩ ⟨⟨zv.2, kk⟩, b6⟩ (by rw [List.length_cons, b7]) (zS_tr zs b8) (fun x hx => ?_)
        · have e1 : p + ((k_ea M (k_em M fs.toNat nf m (eL (M 88 f) E)) a (na + 1) p).length : Int) = p + (k_em M fs.toNat nf m (eL (M 88 f) E) (M 118 a) p).length + (k_ea M (k_em M fs.toNat nf m (eL (M 88 f) E)) (a + 1) na (p + (k_em M fs.toNat nf m (eL (M 88 f) E) (M 118 a) p).length)).length := by
            show p + ((k_em M fs.toNat nf m (eL (M 88 f) E) (M 118 a) p ++ k_ea M (k_em M fs.toNat nf m (eL (M 88 f) E)) (a + 1) na (p + (k_em M fs.toNat nf m (eL (M 88 f) E) (M 118 a) p).length)).length : Int) = _
            rw [List.length_append]
            omega
          rw [e1, show h + ((na + 1 : Nat) : Int) = h + 1 + na by omega]
          exact b1
        · have := zs.1
          rw [b4 j j0 (by omega)]
          exact a5 j j0 j1
        · dsimp only
          rw [b2.1 h (by omega), u_v_k zv.1 b4]
          exact vO_go a7 b3
        · rcases List.mem_cons.mp hx with rfl | hx
          · exact u_z_le zv.1 b8.1
          · exact b9 x hx
    · rw [if_neg kk] at h2; cases h2
theorem sd_4 (ih : ∀ k', k' ≤ k → ∀ w, mOK M fs how cd pn Z nf k' L w) (ihk : ∀ k', k' < k → ∀ L w, mOK M fs how cd pn Z nf k' L w) (hfs : fs ≤ 8) (hF : ∀ g, 0 ≤ g → g < fs → fOK M fs how cd pn nf g) (h96 : M 96 r = 4) (hA : mAs M fs how cd nf (L + 1) m n none r p E s y D f) (hD : mDy M σ Hd S c f p h E s) (K : ∀ k', k' ≤ k → ∀ S', pW c f (p + (k_em M fs.toNat nf m (eL (M 88 f) E) r p).length) h (16 * (c - 1) + (E.length - M 88 f)) (s.1 0) σ Hd S y.1 (pVal none y) S' → m_G cd pn Z k' S') : m_G cd pn Z k S := by
  obtain ⟨⟨⟨t, wv, hv⟩, hm, hu⟩, ⟨hk, ha⟩, hnf, ⟨z1, z2, z3, z4, z5, z6⟩, hC, hT⟩ := hA
  obtain ⟨m, rfl⟩ : ∃ m', m = m' + 1 := ⟨m - 1, by omega⟩
  cases n with
  | zero => cases hk
  | succ n =>
    rw [k_ck_n4 h96] at hk
    generalize eg : k_ff M (M 97 r) 0 fs.toNat = g at hk
    split at hk
    · cases hk
    rename_i g0
    split at hk
    · cases hk
    rename_i gne
    obtain ⟨is, h1, h2⟩ := k_b_inv hk
    obtain ⟨q, h3, h4⟩ := k_b_inv h2
    have g0 : 0 ≤ g := by omega
    have gfs : g < fs := by
      have := k_ff_in (M := M) (w := M 97 r) (n := fs.toNat) (f := 0)
      rw [eg] at this
      omega
    have hg := hF g g0 gfs
    obtain ⟨-, -, -, -, -, -, -, -, -, -, -, -, g88, g93, gdn, -, gpn⟩ := id hg
    have e88 : M 101 r = M 88 g := by omega
    have e93 : M 99 r = M 93 g := by omega
    have haq : q.1.1 4 = 1 := kR_cl acR h4 ha
    rw [k_em_4 h96, eg] at hC K
    obtain ⟨hC1, hC2, -⟩ := m_C_app.mp hC
    try dsimp only at hC2
    rw [m_ad_o (by decide) (by decide)] at hC2
    obtain ⟨uk, ub⟩ := hu
    rw [pa_4 h96] at ub
    have hv' : (0 ≤ M 101 r ∧ M 101 r ≤ 4) ∧ (0 ≤ M 99 r ∧ M 99 r ≤ 5) ∧ ∀ i, 0 ≤ i → i < M 99 r → vn M L (M 118 (M 98 r + i)) (t - 1) (wv - 9) := by
      obtain ⟨_, _, hc⟩ := hv
      rcases hc with c | c | c | c | c | c | c | c | c | c | c | c <;> first | exact ⟨c.2.2.1, c.2.2.2.1, c.2.2.2.2.2.2⟩ | (exfalso; omega)
    have lis := k_ci_len h1
    have hh := hD.2.2.2.2.2.2
    refine sd_args (M 99 r).toNat k (M 98 r) (5 * g) p h s q _ σ Hd S ih (by omega) (fun i i0 i1 => ⟨_, _, hv'.2.2 i i0 (by omega)⟩) ub h3 haq (fun x hx => by rw [hnf x hx.1, nf_cl h4]) ⟨z1, z2, z3, z4, z5, z6⟩ hC1 hD (fun k1 hk1 S1 τ1 Hd1 b1 b2 b3 b4 b5 b6 b7 b8 b9 => ?_)
    obtain ⟨nu, n1, n2⟩ := nu_of gdn g88.1 g93.1 (fun i => u_v τ1 (is.getD i.toNat k_0)) (fun j => u_v τ1 (q.2.getD j.toNat (0, k_0)).2)
    have iN : iNu M nu τ1 (4 * g) is := iNu_of (fun i hi => by rw [n1 i (by omega) (by omega)]; rw [Int.toNat_natCast])
    have vN' : vN M nu τ1 (5 * g) q.2 := vN_of (fun i hi => by rw [n2 i (by omega) (by omega)]; rw [Int.toNat_natCast])
    obtain ⟨-, c2, c3, c4⟩ := cl_sem h4 ha b8.2.2.2 (fun u hu => u_z_le (u_z_ci z2 h1 u hu) b8.1) b9 b1.1 iN vN'
    have hna : ((M 99 r).toNat : Int) = M 93 g := by omega
    rw [hna] at b1
    refine gd_15 b1.2.2.2 hC2 (by omega) (by rw [gpn]; omega) (fun k2 hk2 hc60 S2 d1 d2 d3 d4 d5 d6 d7 d10 d8 d9 _ => ?_)
    rw [gpn, show h + M 93 g - M 93 g = h by omega] at d1 d2
    have gg2 : hG Hd1 S1 Hd1 S2 := hG_rf d8
    refine sd_body (c := c + 1) (nu := nu) (ihk k2 (by omega)) hg c2 (fun j j0 j1 => vTy_at c3 vN' j j0 (by omega)) (fun j j0 j1 => ?_) (hI_q b1.2.2.1 d8 d9) d1 (fun k3 hk3 S3 Hd3 x e1 e2 e3 e4 e5 e6 e7 => ?_)
    · obtain ⟨d71, d72⟩ := d7 j j0 (by rw [gpn]; exact j1)
      rw [show 16 * (c + 1 - 1) + j = 16 * c + j by omega, d71, gpn, show h + M 93 g - M 93 g + j = h + j by omega]
      exact ⟨vO_go (aV_at b5 b6 vN' j j0 (by omega)) gg2, d72⟩
    · refine gd_22 e1 e2 (fun k4 hk4 _ S4 x1 x2 x3 x4 x5 x6 x7 x8 _ => ?_) (fun e => by have := hD.2.2.2.2.2.1; omega)
      have gg4 : hG Hd S Hd3 S4 := hG_tr b3 (hG_tr gg2 (hG_tr e4 (hG_rf x7)))
      have v4 : S4 0 h = S3 0 h := by rw [x3]
      have res : ∃ τ2, (∀ j, 0 ≤ j → j < q.1.1 0 → τ2 j = τ1 j) ∧ fO τ2 y.1 ∧ vO Hd3 S4 y.2.1 (S4 0 h) (u_v τ2 y.2.2) := by
        by_cases q3 : M 113 (M 94 g) = 3
        · obtain ⟨o1, o2⟩ := e6 q3
          obtain ⟨τ2, w1, w2, w3, w4⟩ := c4 (S3 4 (S3 0 h)) o2 (fun _ => (hI_r e5 o1).2.2.1)
          refine ⟨τ2, w1, w2, ?_⟩
          rw [w4, if_pos q3, w3, v4]
          exact ⟨fun _ => ⟨o1, by rw [x7]⟩, fun z => absurd rfl z⟩
        · obtain ⟨τ2, w1, w2, w3, w4⟩ := c4 (S3 0 h) (e7 q3) (fun z => absurd z q3)
          refine ⟨τ2, w1, w2, ?_⟩
          rw [w4, if_neg q3, w3, v4]
          exact ⟨(fun z => by cases z), fun _ => rfl⟩
      obtain ⟨τ2, w1, w2, w3⟩ := res
      have cc := hD.2.2.2.2.2.1
      have b1v := b1.2.2.2
      refine K k4 (by omega) S4 ⟨τ2, Hd3, ⟨⟨by rw [x1]; omega, x2⟩, ⟨?_, ?_⟩, cc, e1.2.2.2⟩, ⟨fun j hj => ?_, fun j hj => ?_, fun j hj => ?_, (fun j hj => ?_), fun j q7 => ?_⟩, gg4, hI_q e5 x7 x8, fun j j0 j1 => ?_, w2, w3⟩
      · rw [x4, e3.2.1 (c - 1) (by omega), d3 (c - 1) (by omega)]
        exact b1v.2.1.1
      · rw [x5 (c - 1) (by omega), e3.2.2.1 (c - 1) (by omega), d5, List.length_append, List.length_cons, List.length_nil]
        omega
      · rw [x3, e3.1 j hj, d2 j hj, b2.1 j hj]
      · rw [x4, e3.2.1 j (by omega), d3 j hj, b2.2.1 j hj]
      · rw [x5 j (by omega), e3.2.2.1 j (by omega), d4 j hj, b2.2.2.1 j hj]
      · rw [x6.1, e3.2.2.2.1 j (by omega), d6 j (by omega), b2.2.2.2.1 j hj]
      · rw [x6.2]
        exact e3.2.2.2.2 j (d10 j (b2.2.2.2.2 j q7))
      · have := b8.1
        rw [w1 j j0 (by omega)]
        exact b4 j j0 j1
/-- all that was accepted runs as it should -/
theorem sd_all (hfs : fs ≤ 8) (hF : ∀ g, 0 ≤ g → g < fs → fOK M fs how cd pn nf g) : ∀ (k L : Nat) (w : Option k_h), mOK M fs how cd pn Z nf k L w := by
  intro k
  induction k using Nat.strongRecOn with
  | ind k ihk =>
    have hL : ∀ L, (∀ w, mOK M fs how cd pn Z nf k L w) := by
      intro L
      induction L with
      | zero =>
        intro w m n r p E s y D c f h σ Hd S hA
        obtain ⟨⟨⟨t, wv, hv⟩, -⟩, -⟩ := hA
        exact hv.elim
      | succ L ihL =>
        have ih : ∀ k', k' ≤ k → ∀ w, mOK M fs how cd pn Z nf k' L w := fun k' hk' w => by
          by_cases e : k' = k
          · subst e; exact ihL w
          · exact ihk k' (by omega) L w
        have kd : ∀ {r t wv : Int}, vn M (L + 1) r t wv → 0 ≤ M 96 r ∧ M 96 r ≤ 16 := fun {r t wv} hv => by
          obtain ⟨_, _, hc⟩ := hv
          rcases hc with c | c | c | c | c | c | c | c | c | c | c | c <;> omega
        have wk : mOK M fs how cd pn Z nf k (L + 1) none := by
          intro m n r p E s y D c f h σ Hd S hA hD K
          obtain ⟨t, wv, hv⟩ := hA.1.1
          have k16 := kd hv
          have cs : M 96 r = 0 ∨ M 96 r = 1 ∨ M 96 r = 2 ∨ M 96 r = 3 ∨ M 96 r = 4 ∨ M 96 r = 5 ∨ M 96 r = 6 ∨ M 96 r = 7 ∨ (M 96 r = 8 ∨ M 96 r = 9 ∨ M 96 r = 10) ∨ M 96 r = 11 ∨ M 96 r = 12 ∨ M 96 r = 13 ∨ M 96 r = 14 ∨ M 96 r = 15 ∨ M 96 r = 16 := by omega
          rcases cs with e | e | e | e | e | e | e | e | e | e | e | e | e | e | e
          · exact sd_0 e hA hD K
          · exact sd_1 e hA hD K
          · exact sd_2 ih e hA hD K
          · exact sd_3 ih e hA hD K
          · exact sd_4 ih (fun k' hk' => ihk k' hk') hfs hF e hA hD K
          · exact sd_5 e hA hD K
          · exact sd_6 ihL e hA hD K
          · exact sd_7 ihL e hA hD K
          · exact sd_8 ih e hA hD K
          · exact sd_11 ihL e hA hD K
          · exact sd_12 ih e hA hD K
          · exact sd_13 ih e hA hD K
          · exact sd_14 ih e hA hD K
          · exact sd_15 ihL e hA hD K
          · exact sd_16 ihL e hA hD K
        intro w
        cases w with
        | none => exact wk
        | some t =>
          intro m n r p E s y D c f h σ Hd S hA hD K
          by_cases e12 : M 96 r = 12
          · exact sd_12 ih e12 hA hD K
          by_cases e13 : M 96 r = 13
          · exact sd_13 ih e13 hA hD K
          by_cases e14 : M 96 r = 14
          · exact sd_14 ih e14 hA hD K
          by_cases e15 : M 96 r = 15
          · exact sd_15 ihL e15 hA hD K
          exact sd_s wk ⟨e12, e13, e14, e15⟩ hA hD K
    exact hL
end

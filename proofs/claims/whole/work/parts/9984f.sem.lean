/-! HEADERS AND CALLS: what they say of values -/
/-- parameters stand on top of the names -/
def hQ (M : Nat → Int → Int) (f : Int) : Nat → k_E → k_E → Prop
  | 0, E0, E => E = E0
  | n + 1, E0, E => ∃ row E', E = (M 91 (5 * f + n), 1 + (if M 113 (M 92 (5 * f + n)) = 3 then 1 else 0), row) :: E' ∧ hQ M f n E0 E'
theorem eNu_le {σ τ nu : Int → Int} {v : Int} {E : k_E} (hE : eZ v E) (hs : ∀ k, 0 ≤ k → k < v → τ k = σ k) (h : eNu σ nu E) : eNu τ nu E := fun x hx => by
  rw [u_v_k (hE x hx) hs]
  exact h x hx
theorem k_hn_s {M : Nat → Int → Int} {σ nu : Int → Int} {N : Int} : ∀ {n : Nat} {b v : Int} {E : k_E}, 0 ≤ v → v + n ≤ N → N ≤ 24 → eZ N E → eNu σ nu E → (∀ k : Int, 0 ≤ k → k < n → σ (v + k) = nu (M 87 (b + k))) → eZ N (k_hn M b v n E) ∧ eNu σ nu (k_hn M b v n E)
  | 0, _, _, _, _, _, _, h1, h2, _ => ⟨h1, h2⟩
  | n + 1, b, v, E, v0, v1, v2, h1, h2, h3 => by
    unfold k_hn
    have e := h3 0 (by omega) (by omega)
    rw [Int.add_zero, Int.add_zero] at e
    refine k_hn_s (by omega) (by omega) v2 (eZ_c (u_z_w (by omega)) h1) (eNu_c (by rw [u_v_w (by omega)]; exact e) h2) (fun k k0 k1 => ?_)
    have := h3 (k + 1) (by omega) (by omega)
    rw [show v + 1 + k = v + (k + 1) by omega, show b + 1 + k = b + (k + 1) by omega]
    exact this
theorem k_hn_I {M : Nat → Int → Int} {ic : Int} : ∀ {n : Nat} {b v : Int} {E : k_E}, (E.length : Int) + n ≤ ic → eI ic E → eI ic (k_hn M b v n E)
  | 0, _, _, _, _, h => h
  | n + 1, b, v, E, hl, h => by
    unfold k_hn
    exact k_hn_I (by rw [List.length_cons]; omega) ⟨.inr ⟨by omega, rfl⟩, h⟩
theorem k_gv_b {t : k_h} {pl : Int} {s : k_s} {y : k_v} (h : k_gv t pl s = .inr y) : y.2.1 = if t.1 = 3 then 1 else 0 := by
  unfold k_gv at h
  split at h
  · cases h; rw [if_neg (by omega)]
  · split at h
    · rename_i c
      obtain ⟨a, h1, h2⟩ := k_b_inv h
      cases h2; rw [if_pos c]
    · rename_i c
      obtain ⟨a, h1, h2⟩ := k_b_inv h
      try dsimp only at h2
      split at h2
      · obtain ⟨b, h3, h4⟩ := k_b_inv h2
        cases h4; rw [if_neg c]
      · cases h2; rw [if_neg c]
theorem k_rs_k3 {M : Nat → Int → Int} {E : k_E} {cp t : Int} {y : k_h} (h : k_rs M E cp t = .inr y) : ((y.1 = 3) ↔ (M 113 t = 3)) := by
  unfold k_rs at h
  split at h
  · obtain ⟨a, h1, h2⟩ := k_b_inv h
    cases h2; exact Iff.rfl
  · split at h
    · obtain ⟨a, h1, h2⟩ := k_b_inv h
      cases h2; dsimp only; omega
    · cases h; dsimp only; omega
/-- parameters: what holds of them without values -/
theorem hd_hpz {M : Nat → Int → Int} {f ic : Int} {E0 : k_E} : ∀ {n i : Nat} {E : k_E} {s : k_s} {y : k_E × k_s}, k_hp M (5 * f + i) n E s = .inr y → sZ s → eZ (s.1 0) E → eI ic E → ic ≤ E.length → hQ M f i E0 E → zS s y.2 ∧ eZ (y.2.1 0) y.1 ∧ eI ic y.1 ∧ ic ≤ y.1.length ∧ hQ M f (i + n) E0 y.1
  | 0, i, E, s, y, h, hs, hE, hI, hl, hq => by
    cases h
    exact ⟨zS_rf hs, hE, hI, hl, hq⟩
  | n + 1, i, E, s, y, h, hs, hE, hI, hl, hq => by
    obtain ⟨t, h1, h2⟩ := k_b_inv (show k_b (k_rs M E (-1) (M 92 (5 * f + i))) _ = .inr y from h)
    obtain ⟨z, h3, h4⟩ := k_b_inv h2
    obtain ⟨a1, a2⟩ := zS_gv hs (tZ_rs hE h1) h3
    have e5 : 5 * f + (i : Int) + 1 = 5 * f + ((i + 1 : Nat) : Int) := by omega
    rw [e5] at h4
    have eb := k_gv_b h3
    have e3 := k_rs_k3 h1
    have eb' : z.2.1 = if M 113 (M 92 (5 * f + i)) = 3 then 1 else 0 := by
      rw [eb]
      by_cases q : t.1 = 3
      · rw [if_pos q, if_pos (e3.mp q)]
      · rw [if_neg q, if_neg (fun w => q (e3.mpr w))]
    obtain ⟨b1, b2, b3, b4, b5⟩ := hd_hpz (E0 := E0) h4 a1.2.2.2 (eZ_c a2.1 (eZ_le hE a1.1)) ⟨.inl ⟨hl, by have := a2.2; dsimp only; omega⟩, hI⟩ (by rw [List.length_cons]; omega) ⟨z.2.2, E, by rw [eb'], hq⟩
    exact ⟨zS_tr a1 b1, b2, b3, b4, by rw [show i + (n + 1) = i + 1 + n by omega]; exact b5⟩
theorem hd_inv {M : Nat → Int → Int} {f : Int} {s : k_s} {y : k_E × k_s × k_h} (h : k_hd M f s = .inr y) : ∃ ps s1, k_rp M (k_hn M (4 * f) 0 (M 88 f).toNat []) 0 (-1) (M 89 f) (M 90 f).toNat = .inr ps ∧ k_afs 0 (k_dp k_0 ps) (t_u (t_u s.1 0 (M 88 f)) 1 0, s.2) = .inr s1 ∧ k_hp M (5 * f) (M 93 f).toNat (k_hn M (4 * f) 0 (M 88 f).toNat []) s1 = .inr (y.1, y.2.1) ∧ k_rs M y.1 (-1) (M 94 f) = .inr y.2.2 := by
  unfold k_hd at h
  obtain ⟨ps, h1, h2⟩ := k_b_inv h
  obtain ⟨s1, h3, h4⟩ := k_b_inv h2
  obtain ⟨q, h5, h6⟩ := k_b_inv h4
  obtain ⟨t, h7, h8⟩ := k_b_inv h6
  cases h8
  exact ⟨ps, s1, h1, h3, h5, h7⟩
theorem s0_sZ {s : k_s} {n : Int} (h : 0 ≤ n ∧ n ≤ 24) : sZ (t_u (t_u s.1 0 n) 1 0, s.2) ∧ t_u (t_u s.1 0 n) 1 0 0 = n ∧ t_u (t_u s.1 0 n) 1 0 1 = 0 := by
  have e0 : t_u (t_u s.1 0 n) 1 0 0 = n := by rw [t_u_o (by decide), t_u_s rfl]
  have e1 : t_u (t_u s.1 0 n) 1 0 1 = 0 := t_u_s rfl
  refine ⟨⟨by dsimp only; omega, by dsimp only; omega, fun j j0 j1 => ?_⟩, e0, e1⟩
  dsimp only at j1
  omega
/-- a header: what holds without values -/
theorem hd_z {M : Nat → Int → Int} {f : Int} {s : k_s} {y : k_E × k_s × k_h} (h88 : 0 ≤ M 88 f ∧ M 88 f ≤ 4) (h : k_hd M f s = .inr y) : sZ y.2.1 ∧ eZ (y.2.1.1 0) y.1 ∧ tZ (y.2.1.1 0) y.2.2 ∧ eI (M 88 f) y.1 ∧ M 88 f ≤ y.1.length ∧ hQ M f (M 93 f).toNat (k_hn M (4 * f) 0 (M 88 f).toNat []) y.1 := by
  obtain ⟨ps, s1, h1, h3, h5, h7⟩ := hd_inv h
  obtain ⟨z1, z2, z3⟩ := s0_sZ (s := s) (n := M 88 f) (by omega)
  obtain ⟨n1, -⟩ := k_hn_s (M := M) (σ := fun k => M 87 (4 * f + k)) (nu := fun c => c) (N := M 88 f) (n := (M 88 f).toNat) (b := 4 * f) (v := 0) (E := []) (by omega) (by omega) (by omega) (fun x hx => by cases hx) (fun x hx => by cases hx) (fun k k0 k1 => by rw [Int.zero_add])
  obtain ⟨a1, a2⟩ := zS_afs z1 (by dsimp only; rw [z2]; exact u_z_dp u_z_0 (u_z_rp n1 h1)) h3
  have a2' : s1.1 0 = M 88 f := by rw [a2]; exact z2
  have e0 : (5 : Int) * f = 5 * f + ((0 : Nat) : Int) := by omega
  rw [e0] at h5
  have hl : ((k_hn M (4 * f) 0 (M 88 f).toNat []).length : Int) = M 88 f := by
    rw [k_hn_ln, List.length_nil]
    omega
  obtain ⟨b1, b2, b3, b4, b5⟩ := hd_hpz (E0 := k_hn M (4 * f) 0 (M 88 f).toNat []) (ic := M 88 f) h5 a1.2.2.2 (by rw [a2']; exact n1) (k_hn_I (by rw [List.length_nil]; omega) trivial) (by omega) rfl
  rw [Nat.zero_add] at b5
  exact ⟨b1.2.2.2, b2, tZ_rs b2 h7, b3, b4, b5⟩
theorem hd_hps {M : Nat → Int → Int} {f : Int} {nu : Int → Int} : ∀ {n i : Nat} {E : k_E} {s : k_s} {y : k_E × k_s} {σ : Int → Int}, k_hp M (5 * f + i) n E s = .inr y → sZ s → eZ (s.1 0) E → fO σ s → eNu σ nu E → (∀ j : Int, i ≤ j → j < i + n → tS M nu (M 92 (5 * f + j)) (nu (M 91 (5 * f + j))) ∧ (M 113 (M 92 (5 * f + j)) = 3 → 0 ≤ nu (M 91 (5 * f + j)))) → ∃ τ, fO τ y.2 ∧ eNu τ nu y.1
  | 0, i, E, s, y, σ, h, hs, hE, hf, hn, ht => by
    cases h
    exact ⟨σ, hf, hn⟩
  | n + 1, i, E, s, y, σ, h, hs, hE, hf, hn, ht => by
    obtain ⟨t, h1, h2⟩ := k_b_inv (show k_b (k_rs M E (-1) (M 92 (5 * f + i))) _ = .inr y from h)
    obtain ⟨z, h3, h4⟩ := k_b_inv h2
    have tz := tZ_rs hE h1
    obtain ⟨a1, a2⟩ := zS_gv hs tz h3
    have e5 : 5 * f + (i : Int) + 1 = 5 * f + ((i + 1 : Nat) : Int) := by omega
    rw [e5] at h4
    obtain ⟨t1, t2⟩ := ht i (by omega) (by omega)
    obtain ⟨r1, r2, -, -⟩ := tO_rs (v := nu (M 91 (5 * f + i))) hn h1
    obtain ⟨τ, g1, g2, g3, g4⟩ := fO_gv hs tz h3 hf (r1.mpr t1) (fun q => t2 (r2.mp q))
    exact hd_hps h4 a1.2.2.2 (eZ_c a2.1 (eZ_le hE a1.1)) g2 (eNu_c g3 (eNu_le hE g1 hn)) (fun j j0 j1 => ht j (by omega) (by omega))
/-- a header: values that are as it asks make its facts true -/
theorem hd_sem {M : Nat → Int → Int} {f : Int} {s : k_s} {y : k_E × k_s × k_h} {nu : Int → Int} (h88 : 0 ≤ M 88 f ∧ M 88 f ≤ 4) (h93 : 0 ≤ M 93 f) (h : k_hd M f s = .inr y) (hp : pH M nu 0 0 (M 89 f) (M 90 f).toNat) (ht : ∀ j : Int, 0 ≤ j → j < M 93 f → tS M nu (M 92 (5 * f + j)) (nu (M 91 (5 * f + j))) ∧ (M 113 (M 92 (5 * f + j)) = 3 → 0 ≤ nu (M 91 (5 * f + j)))) : ∃ σ, fO σ y.2.1 ∧ eNu σ nu y.1 := by
  obtain ⟨ps, s1, h1, h3, h5, h7⟩ := hd_inv h
  obtain ⟨z1, z2, z3⟩ := s0_sZ (s := s) (n := M 88 f) (by omega)
  obtain ⟨n1, n2⟩ := k_hn_s (M := M) (σ := fun k => nu (M 87 (4 * f + k))) (nu := nu) (N := M 88 f) (n := (M 88 f).toNat) (b := 4 * f) (v := 0) (E := []) (by omega) (by omega) (by omega) (fun x hx => by cases hx) (fun x hx => by cases hx) (fun k k0 k1 => by rw [Int.zero_add])
  have uz : ∀ w ∈ k_dp k_0 ps, u_z (M 88 f) w := u_z_dp u_z_0 (u_z_rp n1 h1)
  obtain ⟨a1, a2⟩ := zS_afs z1 (by dsimp only; rw [z2]; exact uz) h3
  have a2' : s1.1 0 = M 88 f := by rw [a2]; exact z2
  have f1 : fO (fun k => nu (M 87 (4 * f + k))) s1 := fO_afs z1 (by dsimp only; rw [z2]; exact uz) h3 (fun j j0 j1 => by dsimp only at j1; omega) (u_dp.mpr (by rw [u_v_0]; exact (pH_rp n2 h1).mpr hp))
  have e0 : (5 : Int) * f = 5 * f + ((0 : Nat) : Int) := by omega
  rw [e0] at h5
  exact hd_hps h5 a1.2.2.2 (by rw [a2']; exact n1) f1 n2 (fun j j0 j1 => ht j (by omega) (by omega))
/-- what is given in a call -/
def vN (M : Nat → Int → Int) (nu σ : Int → Int) : Int → List (Int × (Int → Int)) → Prop
  | _, [] => True
  | b, x :: l => nu (M 91 b) = u_v σ x.2 ∧ vN M nu σ (b + 1) l
def vTy (M : Nat → Int → Int) (nu σ : Int → Int) : Int → List (Int × (Int → Int)) → Prop
  | _, [] => True
  | b, x :: l => tS M nu (M 92 b) (u_v σ x.2) ∧ vTy M nu σ (b + 1) l
def iNu (M : Nat → Int → Int) (nu σ : Int → Int) : Int → List (Int → Int) → Prop
  | _, [] => True
  | b, h :: l => nu (M 87 b) = u_v σ h ∧ iNu M nu σ (b + 1) l
theorem eNu_en {M : Nat → Int → Int} {nu σ : Int → Int} : ∀ {is : List (Int → Int)} {b : Int} {E : k_E}, iNu M nu σ b is → eNu σ nu E → eNu σ nu (k_en M b is E)
  | [], _, _, _, h => h
  | x :: l, b, E, hi, h => by
    show eNu σ nu (k_en M (b + 1) l ((M 87 b, 0, x) :: E))
    exact eNu_en hi.2 (eNu_c hi.1.symm h)
theorem cg_sem {M : Nat → Int → Int} {f pl : Int} {nu σ : Int → Int} : ∀ {l : List (Int × (Int → Int))} {b : Int} {E : k_E} {s : k_s} {y : k_E × k_s}, k_cg M f pl b l E s = .inr y → y.2.1 4 = 1 → sZ s → fO σ s → eNu σ nu E → vN M nu σ b l → s.1 4 = 1 ∧ fO σ y.2 ∧ eNu σ nu y.1 ∧ vTy M nu σ b l
  | [], _, _, _, _, h, ha, hs, hf, hn, _ => by
    cases h
    exact ⟨ha, hf, hn, trivial⟩
  | x :: l, b, E, s, y, h, ha, hs, hf, hn, hv => by
    obtain ⟨t, h1, h2⟩ := k_b_inv (show k_b (k_rs M E pl (M 92 b)) _ = .inr y from h)
    obtain ⟨s1, h3, h4⟩ := k_b_inv h2
    have a4 : s1.1 4 = 1 := kR_cg acR h4 ha
    obtain ⟨z1, -⟩ := zS_ags hs h3
    obtain ⟨b1, b2, b3⟩ := u_ags (by decide) hs h3 a4 hf
    obtain ⟨r1, -, -, r4⟩ := tO_rs (v := u_v σ x.2) hn h1
    obtain ⟨c1, c2, c3, c4⟩ := cg_sem h4 ha z1.2.2.2 b3 (eNu_c hv.1.symm hn) hv.2
    exact ⟨b2, c2, c3, r1.mp ((tO_dm r4).mp b1), c4⟩
theorem cl_sem {M : Nat → Int → Int} {f g pl : Int} {is : List (Int → Int)} {vs : List (Int × (Int → Int))} {s : k_s} {y : k_v} {nu σ : Int → Int} (h : k_cl M f g pl is vs s = .inr y) (ha : y.1.1 4 = 1) (hs : sZ s) (hi : ∀ h ∈ is, u_z (s.1 0) h) (hl : ∀ x ∈ vs, u_z (s.1 0) x.2) (hf : fO σ s) (hni : iNu M nu σ (4 * g) is) (hnv : vN M nu σ (5 * g) vs) : s.1 4 = 1 ∧ pH M nu 0 0 (M 89 g) (M 90 g).toNat ∧ vTy M nu σ (5 * g) vs ∧ ∀ v, tS M nu (M 94 g) v → (M 113 (M 94 g) = 3 → 0 ≤ v) → ∃ τ, (∀ k, 0 ≤ k → k < s.1 0 → τ k = σ k) ∧ fO τ y.1 ∧ u_v τ y.2.2 = v ∧ y.2.1 = (if M 113 (M 94 g) = 3 then 1 else 0) := by
  unfold k_cl at h
  obtain ⟨ps, h1, h2⟩ := k_b_inv h
  obtain ⟨s1, h3, h4⟩ := k_b_inv h2
  obtain ⟨q, h5, h6⟩ := k_b_inv h4
  obtain ⟨t, h7, h8⟩ := k_b_inv h6
  obtain ⟨a1, a2, a3, a4⟩ := zS_ags hs h3
  have hE := eZ_en (M := M) (b := 4 * g) (E := []) hi (fun y hy => by cases hy)
  have hN := eNu_en (M := M) (b := 4 * g) (E := []) hni (fun y hy => by cases hy)
  obtain ⟨⟨b1, b2, b3⟩, b4⟩ := zS_cg a1.2.2.2 (by rw [a2]; exact hE) (fun z hz => by rw [a2]; exact hl z hz) h5
  have ac2 : q.2.1 4 = 1 := kR_gv acR h8 ha
  have ac1 : s1.1 4 = 1 := kR_cg acR h5 ac2
  obtain ⟨g1, g2, g3⟩ := u_ags (by decide) hs h3 ac1 hf
  obtain ⟨c1, c2, c3, c4⟩ := cg_sem h5 ac2 a1.2.2.2 g3 hN hnv
  refine ⟨g2, (pH_rp hN h1).mp ?_, c4, fun v hv h0 => ?_⟩
  · have := u_dp.mp g1
    rw [u_v_0] at this
    exact this
  · have tz : tZ (q.2.1 0) t := by rw [b2]; exact tZ_rs b4 h7
    obtain ⟨r1, r2, -, -⟩ := tO_rs (v := v) c3 h7
    obtain ⟨τ, e1, e2, e3, e4⟩ := fO_gv b1.2.2.2 tz h8 c2 (r1.mpr hv) (fun z => h0 (r2.mp z))
    refine ⟨τ, fun k k0 k1 => e1 k k0 (by omega), e2, e3, ?_⟩
    rw [e4]
    by_cases z : t.1 = 3
    · rw [if_pos z, if_pos (r2.mp z)]
    · rw [if_neg z, if_neg (fun w => z (r2.mpr w))]
/-- names that are all different can be worth anything -/
theorem nu_ex {a A : Int → Int} : ∀ n : Nat, (∀ i j : Int, 0 ≤ i → i < j → j < n → a i ≠ a j) → ∃ nu : Int → Int, ∀ i : Int, 0 ≤ i → i < n → nu (a i) = A i
  | 0, _ => ⟨fun _ => 0, fun i i0 i1 => by omega⟩
  | n + 1, h => by
    obtain ⟨nu, hn⟩ := nu_ex n (fun i j i0 ij j1 => h i j i0 ij (by omega))
    refine ⟨t_u nu (a n) (A n), fun i i0 i1 => ?_⟩
    by_cases q : i = n
    · subst q; exact t_u_s rfl
    · rw [t_u_o (h i n i0 (by omega) (by omega))]
      exact hn i i0 (by omega)
theorem nu_of {M : Nat → Int → Int} {g : Int} (h : dNf M g) (h88 : 0 ≤ M 88 g) (h93 : 0 ≤ M 93 g) (A B : Int → Int) : ∃ nu : Int → Int, (∀ i, 0 ≤ i → i < M 88 g → nu (M 87 (4 * g + i)) = A i) ∧ ∀ j, 0 ≤ j → j < M 93 g → nu (M 91 (5 * g + j)) = B j := by
  obtain ⟨nu, hn⟩ := nu_ex (a := fun k => if k < M 88 g then M 87 (4 * g + k) else M 91 (5 * g + (k - M 88 g))) (A := fun k => if k < M 88 g then A k else B (k - M 88 g)) (M 88 g + M 93 g).toNat (fun i j i0 ij j1 => by
    by_cases qi : i < M 88 g
    · rw [if_pos qi]
      by_cases qj : j < M 88 g
      · rw [if_pos qj]; exact h.1 i j i0 ij qj
      · rw [if_neg qj]; exact h.2.2 i (j - M 88 g) i0 qi (by omega) (by omega)
    · rw [if_neg qi, if_neg (by omega)]
      exact h.2.1 (i - M 88 g) (j - M 88 g) (by omega) (by omega) (by omega))
  refine ⟨nu, fun i i0 i1 => ?_, fun j j0 j1 => ?_⟩
  · have := hn i i0 (by omega)
    rw [if_pos i1, if_pos i1] at this
    exact this
  · have := hn (M 88 g + j) (by omega) (by omega)
    rw [if_neg (by omega), if_neg (by omega), show M 88 g + j - M 88 g = j by omega] at this
    exact this

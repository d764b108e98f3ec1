/-! THE REFERENCE: check, as far as the goals -/
def cJ (j : Int) : Prop := j < 7 ∨ (7 < j ∧ j < 62) ∨ j = 63 ∨ (66 < j ∧ j < 74) ∨ j = 78 ∨ (83 < j ∧ j < 90) ∨ j = 97 ∨ j = 99 ∨ j = 100 ∨ (102 < j ∧ j < 112) ∨ 113 < j
def fCh (M M1 : Nat → Int → Int) : Prop := (∀ x, x ≠ 81 → x ≠ 103 → (x < 128 ∨ 155 < x) → M1 x = M x) ∧ ∀ j, cJ j → M1 81 j = M 81 j
theorem fCh_tr {M M1 M2 : Nat → Int → Int} (h1 : fCh M M1) (h2 : fCh M1 M2) : fCh M M2 := ⟨fun x a b c => (h2.1 x a b c).trans (h1.1 x a b c), fun j a => (h2.2 j a).trans (h1.2 j a)⟩
theorem fCh_g {M M1 : Nat → Int → Int} (h : fGh M M1) : fCh M M1 := ⟨fun x a b c => h.1 x a (by omega), fun j hj => h.2 j (by unfold cJ at hj; unfold gJ; omega)⟩
theorem fCh_c {M M1 : Nat → Int → Int} (h : fC M M1) : fCh M M1 := ⟨fun x a b c => h.1 x a b c, fun j hj => h.2 j (by unfold cJ at hj; omega)⟩
theorem fCh_up {M : Nat → Int → Int} {j z : Int} (hj : ¬ cJ j) : fCh M (x_up M 81 j z) := ⟨fun x x1 _ _ => x_up_ne x1, fun i hi => x_up_o (fun q => hj (q ▸ hi))⟩
theorem rB_T {M0 M0' M : Nat → Int → Int} {f tp : Int} {E : k_E} {s : k_s} (h : rB M0 M f E s tp) (hT : ∀ x, 86 ≤ x → x ≤ 118 → x ≠ 103 → M0 x = M0' x) (h10 : ∀ j, j = 10 ∨ j = 7 ∨ j = 66 → M0 81 j = M0' 81 j) : rB M0' M f E s tp := by
  obtain ⟨a1, a2, a3, a4, a5, a6, a7, a8⟩ := h
  refine ⟨fun x x1 x2 x3 => (a1 x x1 x2 x3).trans (hT x x1 x2 x3), a2, a3, a4, a5, a6, a7, ?_, a8.2.1.trans (h10 10 (by omega)), a8.2.2.1.trans (h10 7 (by omega)), a8.2.2.2.trans (h10 66 (by omega))⟩
  rw [← hT 88 (by decide) (by decide) (by decide)]
  exact a8.1
theorem k_hn_T {M M' : Nat → Int → Int} (h : M' 87 = M 87) : ∀ {n : Nat} {b v : Int} {E : k_E}, k_hn M' b v n E = k_hn M b v n E
  | 0, _, _, _ => rfl
  | n + 1, b, v, E => by
    show k_hn M' (b + 1) (v + 1) n ((M' 87 b, 0, k_w v) :: E) = k_hn M (b + 1) (v + 1) n ((M 87 b, 0, k_w v) :: E)
    rw [h, k_hn_T h]
theorem k_hd_T {M M' : Nat → Int → Int} {f : Int} {s : k_s} (h : ∀ x, 86 ≤ x → x ≤ 117 → x ≠ 103 → M' x = M x) : k_hd M' f s = k_hd M f s := by
  have hT : ∀ x, 104 ≤ x → x ≤ 117 → M' x = M x := fun x a b => h x (by omega) (by omega) (by omega)
  have hx : fTb M M' := fun x a b => h x (by omega) (by omega) (by omega)
  unfold k_hd
  simp only [h 88 (by decide) (by decide) (by decide), h 89 (by decide) (by decide) (by decide), h 90 (by decide) (by decide) (by decide), h 93 (by decide) (by decide) (by decide), h 94 (by decide) (by decide) (by decide), k_hn_T (h 87 (by decide) (by decide) (by decide)), k_rp_T hx, k_hp_T (h 91 (by decide) (by decide) (by decide)) (h 92 (by decide) (by decide) (by decide)) hT, k_rs_T hT]
theorem vF_T {M M' : Nat → Int → Int} {f : Int} (h : ∀ x, 86 ≤ x → x ≤ 117 → x ≠ 103 → M' x = M x) (hv : vF M f) : vF M' f := by
  have hT : ∀ x, 104 ≤ x → x ≤ 117 → M' x = M x := fun x a b => h x (by omega) (by omega) (by omega)
  obtain ⟨v1, v2, v3, v4, v5, v6, v7⟩ := hv
  unfold vF
  rw [h 88 (by decide) (by decide) (by decide), h 89 (by decide) (by decide) (by decide), h 90 (by decide) (by decide) (by decide), h 91 (by decide) (by decide) (by decide), h 92 (by decide) (by decide) (by decide), h 93 (by decide) (by decide) (by decide), h 94 (by decide) (by decide) (by decide)]
  exact ⟨v1, v2, vp_T (fun x a b => h x (by omega) (by omega) (by omega)) v3, v4, v5, fun i i0 i1 => ⟨vt_T hT (v6 i i0 i1).1, (v6 i i0 i1).2⟩, vt_T hT v7⟩
/-- a header's result is a type of its own -/
theorem k_hd_t {M : Nat → Int → Int} {f : Int} {s : k_s} {y : k_E × k_s × k_h} (h : k_hd M f s = .inr y) : k_rs M y.1 (-1) (M 94 f) = .inr y.2.2 := by
  unfold k_hd at h
  obtain ⟨ps, _, h2⟩ := k_b_inv h
  obtain ⟨s1, _, h4⟩ := k_b_inv h2
  obtain ⟨z, _, h6⟩ := k_b_inv h4
  obtain ⟨t, h7, h8⟩ := k_b_inv h6
  cases h8
  exact h7
theorem k_hd_neg {M : Nat → Int → Int} {f c a : Int} {s : k_s} (h : k_hd M f s = .inl (c, a)) : c < 0 := by
  unfold k_hd at h
  rcases k_b_inl h with h1 | ⟨ps, _, h2⟩
  · exact k_rp_neg h1
  rcases k_b_inl h2 with h3 | ⟨s1, _, h4⟩
  · exact k_afs_neg h3
  rcases k_b_inl h4 with h5 | ⟨y, _, h6⟩
  · have hp : ∀ {n : Nat} {b : Int} {E : k_E} {s : k_s}, k_hp M b n E s = .inl (c, a) → c < 0 := by
      intro n
      induction n with
      | zero => intro b E s h; cases h
      | succ n ih =>
        intro b E s h
        rcases k_b_inl (show k_b (k_rs M E (-1) (M 92 b)) (fun t => k_b (k_gv t 0 s) (fun y => k_hp M (b + 1) n ((M 91 b, 1 + y.2.1, y.2.2) :: E) y.1)) = .inl (c, a) from h) with q1 | ⟨t, _, q2⟩
        · exact k_rs_neg q1
        rcases k_b_inl q2 with q3 | ⟨z, _, q4⟩
        · exact k_gv_neg q3
        · exact ih q4
    exact hp h5
  rcases k_b_inl h6 with h7 | ⟨t, _, h8⟩
  · exact k_rs_neg h7
  · cases h8
/-! what comes out of a header does not depend on the goals -/
def sN (s s' : k_s) : Prop := s.1 0 = s'.1 0 ∧ s.1 1 = s'.1 1
theorem sN_nv {pl : Int} {s s' : k_s} {y : k_s × Int} (hn : sN s s') (h : k_nv pl s = .inr y) : ∃ y', k_nv pl s' = .inr y' ∧ sN y.1 y'.1 ∧ y.2 = y'.2 := by
  unfold k_nv at h ⊢
  by_cases h24 : s.1 0 = 24
  · rw [if_pos h24] at h
    cases h
  · rw [if_neg h24] at h
    rw [if_neg (by rw [← hn.1]; exact h24)]
    cases h
    exact ⟨_, rfl, ⟨by show t_u s.1 0 (s.1 0 + 1) 0 = t_u s'.1 0 (s'.1 0 + 1) 0; rw [t_u_s rfl, t_u_s rfl, hn.1], by show t_u s.1 0 (s.1 0 + 1) 1 = t_u s'.1 0 (s'.1 0 + 1) 1; rw [t_u_o (by decide), t_u_o (by decide), hn.2]⟩, hn.1⟩
theorem sN_af {pl : Int} {h : Int → Int} {s s' t : k_s} (hn : sN s s') (q : k_af pl h s = .inr t) : ∃ t', k_af pl h s' = .inr t' ∧ sN t t' := by
  unfold k_af at q ⊢
  by_cases h48 : s.1 1 = 48
  · rw [if_pos h48] at q
    cases q
  · rw [if_neg h48] at q
    rw [if_neg (by rw [← hn.2]; exact h48)]
    cases q
    exact ⟨_, rfl, by show t_u s.1 1 (s.1 1 + 1) 0 = t_u s'.1 1 (s'.1 1 + 1) 0; rw [t_u_o (by decide), t_u_o (by decide), hn.1], by show t_u s.1 1 (s.1 1 + 1) 1 = t_u s'.1 1 (s'.1 1 + 1) 1; rw [t_u_s rfl, t_u_s rfl, hn.2]⟩
theorem sN_afs {pl : Int} : ∀ {l : List (Int → Int)} {s s' t : k_s}, sN s s' → k_afs pl l s = .inr t → ∃ t', k_afs pl l s' = .inr t' ∧ sN t t'
  | [], s, s', t, hn, h => by cases h; exact ⟨s', rfl, hn⟩
  | x :: l, s, s', t, hn, h => by
    obtain ⟨a, h1, h2⟩ := k_b_inv (show k_b (k_af pl x s) (k_afs pl l) = .inr t from h)
    obtain ⟨a', g1, g2⟩ := sN_af hn h1
    obtain ⟨t', g3, g4⟩ := sN_afs g2 h2
    exact ⟨t', by show k_b (k_af pl x s') (k_afs pl l) = _; rw [g1, k_b_r]; exact g3, g4⟩
theorem sN_gv {th : k_h} {pl : Int} {s s' : k_s} {y : k_v} (hn : sN s s') (h : k_gv th pl s = .inr y) : ∃ y', k_gv th pl s' = .inr y' ∧ sN y.1 y'.1 ∧ y.2 = y'.2 := by
  unfold k_gv at h ⊢
  by_cases c1 : th.1 = 1
  · rw [if_pos c1] at h ⊢
    cases h
    exact ⟨_, rfl, hn, rfl⟩
  · rw [if_neg c1] at h ⊢
    by_cases c3 : th.1 = 3
    · rw [if_pos c3] at h ⊢
      obtain ⟨a, h1, h2⟩ := k_b_inv h
      cases h2
      obtain ⟨a', g1, g2⟩ := sN_af hn h1
      rw [g1]
      exact ⟨_, rfl, g2, rfl⟩
    · rw [if_neg c3] at h ⊢
      obtain ⟨a, h1, h2⟩ := k_b_inv h
      obtain ⟨a', g1, g2, g3⟩ := sN_nv hn h1
      rw [g1, k_b_r]
      try dsimp only at h2
      by_cases c2 : th.1 = 2
      · rw [if_pos c2] at h2
        rw [if_pos c2, ← g3]
        obtain ⟨b, h3, h4⟩ := k_b_inv h2
        cases h4
        obtain ⟨b', g4, g5⟩ := sN_afs g2 h3
        rw [g4]
        exact ⟨_, rfl, g5, rfl⟩
      · rw [if_neg c2] at h2
        rw [if_neg c2, ← g3]
        cases h2
        exact ⟨_, rfl, g2, rfl⟩
theorem sN_hp {M : Nat → Int → Int} : ∀ {n : Nat} {b : Int} {E : k_E} {s s' : k_s} {y : k_E × k_s}, sN s s' → k_hp M b n E s = .inr y → ∃ y', k_hp M b n E s' = .inr y' ∧ y.1 = y'.1
  | 0, _, E, s, s', y, hn, h => by cases h; exact ⟨(E, s'), rfl, rfl⟩
  | n + 1, b, E, s, s', y, hn, h => by
    obtain ⟨t, h1, h2⟩ := k_b_inv (show k_b (k_rs M E (-1) (M 92 b)) (fun t => k_b (k_gv t 0 s) (fun y => k_hp M (b + 1) n ((M 91 b, 1 + y.2.1, y.2.2) :: E) y.1)) = .inr y from h)
    obtain ⟨z, h3, h4⟩ := k_b_inv h2
    obtain ⟨z', g1, g2, g3⟩ := sN_gv hn h3
    obtain ⟨y', g4, g5⟩ := sN_hp g2 h4
    refine ⟨y', ?_, g5⟩
    show k_b (k_rs M E (-1) (M 92 b)) (fun t => k_b (k_gv t 0 s') (fun y => k_hp M (b + 1) n ((M 91 b, 1 + y.2.1, y.2.2) :: E) y.1)) = _
    rw [h1, k_b_r, g1, k_b_r, ← g3]
    exact g4
theorem k_hd_any {M : Nat → Int → Int} {f : Int} {s s' : k_s} {z : k_E × k_s × k_h} (h : k_hd M f s = .inr z) : ∃ y, k_hd M f s' = .inr y := by
  unfold k_hd at h ⊢
  obtain ⟨ps, h1, h2⟩ := k_b_inv h
  obtain ⟨s1, h3, h4⟩ := k_b_inv h2
  obtain ⟨u, h5, h6⟩ := k_b_inv h4
  obtain ⟨t, h7, _⟩ := k_b_inv h6
  obtain ⟨s1', g1, g2⟩ := sN_afs (s' := k_bk (M 88 f) 0 s') (show sN (k_bk (M 88 f) 0 s) (k_bk (M 88 f) 0 s') from ⟨k_bk_0.trans k_bk_0.symm, k_bk_1.trans k_bk_1.symm⟩) h3
  obtain ⟨u', g3, g4⟩ := sN_hp g2 h5
  rw [g4] at h7
  refine ⟨(u'.1, u'.2, t), ?_⟩
  show k_b (k_rp M (k_hn M (4 * f) 0 (M 88 f).toNat []) 0 (-1) (M 89 f) (M 90 f).toNat) (fun ps => k_b (k_afs 0 (k_dp k_0 ps) (k_bk (M 88 f) 0 s')) (fun s1 => k_b (k_hp M (5 * f) (M 93 f).toNat (k_hn M (4 * f) 0 (M 88 f).toNat []) s1) (fun y => k_b (k_rs M y.1 (-1) (M 94 f)) (fun t => .inr (y.1, y.2, t))))) = _
  rw [h1, k_b_r, g1, k_b_r, g3, k_b_r, h7]
  rfl
/-! faults have numbers below 0 -/
theorem k_nm_i {pl : Int} {x : k_o k_v} {z : Int × Int} (h : k_nm pl x = .inl z) : x = .inl z ∨ z = (-6, pl) := by
  rcases k_b_inl (show k_b x (fun y => if y.2.1 = 1 then .inl (-6, pl) else .inr y) = .inl z from h) with h1 | ⟨y, _, h2⟩
  · exact .inl h1
  · try dsimp only at h2
    split at h2
    · cases h2
      exact .inr rfl
    · cases h2
theorem k_ck_neg {M : Nat → Int → Int} {fs f c a : Int} : ∀ (L n : Nat) (w : Option k_h) (r t wv : Int) (E : k_E) (s : k_s), 2 * (L : Int) ≤ n + r_w w → vn M L r t wv → k_ck M fs f n w r E s = .inl (c, a) → c < 0 := by
  intro L
  induction L with
  | zero => intro n w r t wv E s _ hv; exact hv.elim
  | succ L ih =>
    have nm : ∀ (n : Nat) (r t wv : Int) (E : k_E) (s : k_s) (pl : Int), 2 * (L : Int) ≤ n + 1 → vn M L r t wv → k_nm pl (k_ck M fs f n none r E s) = .inl (c, a) → c < 0 := by
      intro n r t wv E s pl hn hv h
      rcases k_nm_i h with h1 | h1
      · exact ih n none r t wv E s hn hv h1
      · cases h1; decide
    have work : ∀ (n : Nat) (r t wv : Int) (E : k_E) (s : k_s), 2 * ((L + 1 : Nat) : Int) ≤ (n + 1 : Nat) + 1 → vn M (L + 1) r t wv → M 96 r ≠ 12 ∧ M 96 r ≠ 13 ∧ M 96 r ≠ 14 ∧ M 96 r ≠ 15 → k_ck M fs f (n + 1) none r E s = .inl (c, a) → c < 0 := by
      intro n r t wv E s hn hv hnk h
      obtain ⟨_, _, hc⟩ := hv
      unfold k_ck at h
      rw [if_neg hnk.1, if_neg hnk.2.1, if_neg hnk.2.2.1, if_neg hnk.2.2.2] at h
      dsimp only at h
      rcases hc with ⟨c0, c1⟩ | c0 | c0 | ⟨c0, c1⟩ | ⟨c0, c1, c2⟩ | ⟨c0, c1, c2, c3, c4, c5, c6⟩ | ⟨c0, c1⟩ | ⟨c0, c1, c2⟩ | ⟨c0, c1, c2⟩ | ⟨c0, _⟩ | ⟨c0, _⟩ | ⟨c0, c1, c2⟩
      · rw [if_pos c0] at h
        cases h
      · rw [if_neg (by omega), if_pos c0] at h
        split at h
        · cases h; decide
        · cases h
      · rw [if_neg (by omega), if_neg (by omega), if_pos c0] at h
        split at h
        · cases h; decide
        · split at h
          · cases h
          · cases h; decide
      · rw [if_neg (by omega), if_neg (by omega), if_neg (by omega), if_pos (.inl c0)] at h
        split at h
        · cases h; decide
        · split at h
          · rcases k_b_inl h with h1 | ⟨u, _, h2⟩
            · exact nm n _ _ _ _ _ _ (by omega) c1 h1
            · try dsimp only at h2
              rw [if_pos c0] at h2
              exact k_ac_neg h2
          · cases h; decide
      · rw [if_neg (by omega), if_neg (by omega), if_neg (by omega), if_pos (.inr c0)] at h
        split at h
        · cases h; decide
        · split at h
          · rcases k_b_inl h with h1 | ⟨u, _, h2⟩
            · exact nm n _ _ _ _ _ _ (by omega) c1 h1
            · try dsimp only at h2
              rw [if_neg (by omega)] at h2
              rcases k_b_inl h2 with h3 | ⟨v, _, h4⟩
              · exact nm n _ _ _ _ _ _ (by omega) c2 h3
              · exact k_ac_neg h4
          · cases h; decide
      · rw [if_neg (by omega), if_neg (by omega), if_neg (by omega), if_neg (by omega), if_pos c0] at h
        split at h
        · cases h; decide
        · split at h
          · cases h; decide
          · rcases k_b_inl h with h1 | ⟨is, _, h2⟩
            · exact k_ci_neg h1
            · rcases k_b_inl h2 with h3 | ⟨y, _, h4⟩
              · have ca : ∀ (m : Nat) (a0 b0 : Int) (s : k_s), (∀ i, 0 ≤ i → i < m → vn M L (M 118 (a0 + i)) (t - 1) (wv - 9)) → k_ca M (fun a s => k_ck M fs f n none a E s) a0 b0 m s = .inl (c, a) → c < 0 := by
                  intro m
                  induction m with
                  | zero => intro a0 b0 s _ h; cases h
                  | succ m ihm =>
                    intro a0 b0 s hvn h
                    rcases k_b_inl (show k_b (k_ck M fs f n none (M 118 a0) E s) (fun y => if (y.2.1 = 1) ↔ (M 113 (M 92 b0) = 3) then k_b (k_ca M (fun a s => k_ck M fs f n none a E s) (a0 + 1) (b0 + 1) m y.1) (fun q => .inr (q.1, (y.2.1, y.2.2) :: q.2)) else .inl (-6, M 102 (M 118 a0))) = .inl (c, a) from h) with q1 | ⟨u, _, q2⟩
                    · have hv0 := hvn 0 (Int.le_refl _) (by omega)
                      rw [show a0 + 0 = a0 by omega] at hv0
                      exact ih n none _ _ _ _ _ (by show 2 * (L : Int) ≤ n + 1; omega) hv0 q1
                    · try dsimp only at q2
                      split at q2
                      · rcases k_b_inl q2 with q3 | ⟨v, _, q4⟩
                        · exact ihm (a0 + 1) (b0 + 1) _ (fun i i0 i1 => by rw [show a0 + 1 + i = a0 + (i + 1) by omega]; exact hvn (i + 1) (by omega) (by omega)) q3
                        · cases q4
                      · cases q2; decide
                exact ca _ _ _ _ (fun i i0 i1 => c6 i i0 (by omega)) h3
              · exact k_clr_neg h4
      · rcases c0 with c0 | c0 | c0
        · rw [if_neg (by omega), if_neg (by omega), if_neg (by omega), if_neg (by omega), if_neg (by omega), if_pos c0] at h
          rcases k_b_inl h with h1 | ⟨u, _, h2⟩
          · exact nm n _ _ _ _ _ _ (by omega) c1 h1
          · rcases k_b_inl h2 with h3 | ⟨v, _, h4⟩
            · exact k_af_neg h3
            · cases h4
        · rw [if_neg (by omega), if_neg (by omega), if_neg (by omega), if_neg (by omega), if_neg (by omega), if_neg (by omega), if_pos c0] at h
          exact nm n _ _ _ _ _ _ (by omega) c1 h
        · exact absurd c0 hnk.2.2.2
      · rcases c0 with c0 | c0 | c0 | c0
        case inr.inr.inr => exact absurd c0 hnk.1
        all_goals
          rw [if_neg (by omega), if_neg (by omega), if_neg (by omega), if_neg (by omega), if_neg (by omega), if_neg (by omega), if_neg (by omega), if_neg (by omega)] at h
          rcases k_b_inl h with h1 | ⟨u, _, h2⟩
          · exact nm n _ _ _ _ _ _ (by omega) c1 h1
          · try dsimp only at h2
            rw [if_neg (by omega)] at h2
            rcases k_b_inl h2 with h3 | ⟨v, _, h4⟩
            · exact nm n _ _ _ _ _ _ (by omega) c2 h3
            · exact k_tw_neg (kd := M 96 r) h4
      · rw [if_neg (by omega), if_neg (by omega), if_neg (by omega), if_neg (by omega), if_neg (by omega), if_neg (by omega), if_neg (by omega), if_neg (by omega)] at h
        rcases k_b_inl h with h1 | ⟨u, _, h2⟩
        · exact nm n _ _ _ _ _ _ (by omega) c2 h1
        · try dsimp only at h2
          rw [if_pos c0] at h2
          exact k_dv_neg h2
      · exact absurd c0 hnk.2.1
      · exact absurd c0 hnk.2.2.1
      · rw [if_neg (by omega), if_neg (by omega), if_neg (by omega), if_neg (by omega), if_neg (by omega), if_neg (by omega), if_neg (by omega), if_pos c0] at h
        rcases k_b_inl h with h1 | ⟨u, _, h2⟩
        · exact k_rs_neg h1
        · rcases k_b_inl h2 with h3 | ⟨v, _, h4⟩
          · exact ih n (some u) _ _ _ _ _ (by show 2 * (L : Int) ≤ n + 0; omega) c2 h3
          · exact k_gv_neg h4
    intro n w r t wv E s hn hv h
    have hrw : 0 ≤ r_w w ∧ r_w w ≤ 1 := by unfold r_w; split <;> omega
    cases n with
    | zero => exfalso; omega
    | succ n =>
      by_cases hnk : M 96 r ≠ 12 ∧ M 96 r ≠ 13 ∧ M 96 r ≠ 14 ∧ M 96 r ≠ 15
      · cases w with
        | none => exact work n r t wv E s hn hv hnk h
        | some th =>
          have hn' : 2 * ((L + 1 : Nat) : Int) ≤ (n + 1 : Nat) + 0 := hn
          cases n with
          | zero => exfalso; omega
          | succ n =>
            unfold k_ck at h
            rw [if_neg hnk.1, if_neg hnk.2.1, if_neg hnk.2.2.1, if_neg hnk.2.2.2] at h
            rcases k_b_inl h with h1 | ⟨u, _, h2⟩
            · exact work n r t wv E s (by omega) hv hnk h1
            · try dsimp only at h2
              split at h2
              · rcases k_b_inl h2 with h3 | ⟨v, _, h4⟩
                · exact k_ags_neg h3
                · cases h4
              · cases h2; decide
      · obtain ⟨_, _, hc⟩ := hv
        rcases hc with ⟨c0, c1⟩ | c0 | c0 | ⟨c0, c1⟩ | ⟨c0, c1, c2⟩ | ⟨c0, c1, c2, c3, c4, c5, c6⟩ | ⟨c0, c1⟩ | ⟨c0, c1, c2⟩ | ⟨c0, c1, c2⟩ | ⟨c0, c1, c2, c3⟩ | ⟨c0, c1, c2, c3, c4, c5⟩ | ⟨c0, c1, c2⟩
        · exact absurd (by omega) hnk
        · exact absurd (by omega) hnk
        · exact absurd (by omega) hnk
        · exact absurd (by omega) hnk
        · exact absurd (by omega) hnk
        · exact absurd (by omega) hnk
        · rcases c0 with c0 | c0 | c0
          · exact absurd (by omega) hnk
          · exact absurd (by omega) hnk
          · unfold k_ck at h
            rw [if_neg (by omega), if_neg (by omega), if_neg (by omega), if_pos c0] at h
            exact ih n w _ _ _ _ _ (by omega) c1 h
        · rcases c0 with c0 | c0 | c0 | c0
          · exact absurd (by omega) hnk
          · exact absurd (by omega) hnk
          · exact absurd (by omega) hnk
          · unfold k_ck at h
            rw [if_pos c0] at h
            rcases k_b_inl h with h1 | ⟨u, _, h2⟩
            · exact ih n none _ _ _ _ _ (by show 2 * (L : Int) ≤ n + 1; omega) c1 h1
            · exact ih n w _ _ _ _ _ (by omega) c2 h2
        · exact absurd (by omega) hnk
        · unfold k_ck at h
          rw [if_neg (by omega), if_pos c0] at h
          rcases k_b_inl h with h1 | ⟨u, _, h2⟩
          · exact ih n none _ _ _ _ _ (by show 2 * (L : Int) ≤ n + 1; omega) c2 h1
          · try dsimp only at h2
            split at h2
            · cases h2; decide
            · exact ih n w _ _ _ _ _ (by omega) c3 h2
        · rw [k_ck_if c0] at h
          rcases k_b_inl h with h1 | ⟨u, _, h2⟩
          · exact nm n _ _ _ _ _ _ (by omega) c2 h1
          rcases k_b_inl h2 with h3 | ⟨v, _, h4⟩
          · exact nm n _ _ _ _ _ _ (by omega) c3 h3
          unfold k_i3 at h4
          rcases k_b_inl h4 with h5 | ⟨s1, _, h6⟩
          · exact k_afs_neg h5
          rcases k_b_inl h6 with h7 | ⟨y, _, h8⟩
          · exact ih n w _ _ _ _ _ (by omega) c4 h7
          unfold k_i4 at h8
          rcases k_b_inl h8 with h9 | ⟨s2, _, h10⟩
          · exact k_no_neg h9
          rcases k_b_inl h10 with h11 | ⟨x, _, h12⟩
          · exact ih n w _ _ _ _ _ (by omega) c5 h11
          unfold k_ie at h12
          cases w with
          | some th => cases h12
          | none => exact k_jn_neg h12
        · exact absurd (by omega) hnk
/-- check has faulted -/
def cX (M M' : Nat → Int → Int) (c a g : Int) : Prop := M' 81 74 = c ∧ M' 81 7 = a ∧ M' 81 66 = g ∧ (M' 81 62 = 0 ∧ M' 81 63 = 0 ∧ M' 81 64 = 0 ∧ M' 81 65 = 0 ∧ M' 81 67 = 0) ∧ (∀ x, x ≠ 81 → x ≠ 103 → (x < 128 ∨ 155 < x) → M' x = M x) ∧ ∀ j, cJ j → j ≠ 63 → j ≠ 67 → M' 81 j = M 81 j
section
variable {ρ : Nat → Option xk} {e sl d : Nat} {M : Nat → Int → Int} {R : Nat → Int → Option Nat} {eX : Nat → Nat × (Nat → Int32)} {Q : xK}
set_option linter.unusedSimpArgs false in
set_option maxRecDepth 100000 in
set_option maxHeartbeats 4000000 in
theorem l_61x (hE : ∀ j, (eX j).1 ≤ 1000000) {M0 : Nat → Int → Int} {c a g i fs : Int} (hc : c < 0) (h74 : M 81 74 = c) (h7 : M 81 7 = a) (h66 : M 81 66 = g) (hf : fCh M0 M) (h10 : M 81 10 = fs) (hi : 0 ≤ i ∧ i ≤ fs ∧ fs ≤ 9) (hQ : ∀ M', cX M0 M' c a g → Q (.inl (some (.inl c))) (ρ, e, M', R, sl)) : xm_J tb_P eX tb_K0 174 (d + 22) 61 Q 49 [(0, .inr (.inr (some 82))), (1, .inl i)] [] (ρ, e, M, R, sl) := by
  have fin := hQ (x_up (x_up (x_up (x_up (x_up (x_up (x_up M 81 62 0) 81 63 0) 81 64 0) 81 65 0) 81 66 (-1)) 81 67 0) 81 66 g) ⟨by simp (disch := decide) only [x_up_o]; exact h74, by simp (disch := decide) only [x_up_o]; exact h7, x_up_s rfl, ⟨by simp (disch := decide) only [x_up_o, x_up_s], by simp (disch := decide) only [x_up_o, x_up_s], by simp (disch := decide) only [x_up_o, x_up_s], by simp (disch := decide) only [x_up_o, x_up_s], by simp (disch := decide) only [x_up_o, x_up_s]⟩, fun x x1 x2 x3 => by rw [x_up_ne x1, x_up_ne x1, x_up_ne x1, x_up_ne x1, x_up_ne x1, x_up_ne x1, x_up_ne x1, hf.1 x x1 x2 x3], fun j hj j1 j2 => by
    have hj' : j ≠ 62 ∧ j ≠ 64 ∧ j ≠ 65 ∧ j ≠ 66 := by unfold cJ at hj; omega
    rw [x_up_o hj'.2.2.2, x_up_o j2, x_up_o hj'.2.2.2, x_up_o hj'.2.2.1, x_up_o hj'.2.1, x_up_o j1, x_up_o hj'.1, hf.2 j hj]⟩
  by_cases hlt : i < fs
  all_goals
    refine xm_on hE (fun _ _ => none) (fun k => !(Nat.beq k 62 || Nat.beq k 85)) (fun F C hF hC => ?_)
    (conv => whnf)
    repeat (first | (refine br_t (by first | omega | (simp (disch := omega) only [w32_id, w64_id, x_up_p, x_up_s, x_up_o, x_fill_p, x_fill_i, x_fill_o, x_cpy_p, x_cpy_i, x_cpy_o, x_upR_p, x_upR_s, x_upR_o, x_zM_p, x_zR_p, x_set_p, x_set_s, tb_CM, tb_SM, xm_cats, xm_cat, List.length_cons, List.length_nil, x_cmp_ge, x_cmp_le, x_cmp_gt, x_cmp_lt, x_cmp_eq, not_true_eq_false, not_false_eq_true, true_and, and_true, Int.add_zero, Int.zero_add, Int.cast_ofNat_Int, Int.sub_zero, h74, h10, h66] <;> omega) | (simp (disch := omega) only [w32_id, w64_id, x_up_p, x_up_s, x_up_o, x_fill_p, x_fill_i, x_fill_o, x_cpy_p, x_cpy_i, x_cpy_o, x_upR_p, x_upR_s, x_upR_o, x_zM_p, x_zR_p, x_set_p, x_set_s, tb_CM, tb_SM, xm_cats, xm_cat, List.length_cons, List.length_nil, x_cmp_ge, x_cmp_le, x_cmp_gt, x_cmp_lt, x_cmp_eq, not_true_eq_false, not_false_eq_true, true_and, and_true, Int.add_zero, Int.zero_add, Int.cast_ofNat_Int, Int.sub_zero, h74, h10, h66]; done) | fail) ?_; (conv => whnf)) | (refine br_f (by first | omega | (simp (disch := omega) only [w32_id, w64_id, x_up_p, x_up_s, x_up_o, x_fill_p, x_fill_i, x_fill_o, x_cpy_p, x_cpy_i, x_cpy_o, x_upR_p, x_upR_s, x_upR_o, x_zM_p, x_zR_p, x_set_p, x_set_s, tb_CM, tb_SM, xm_cats, xm_cat, List.length_cons, List.length_nil, x_cmp_ge, x_cmp_le, x_cmp_gt, x_cmp_lt, x_cmp_eq, not_true_eq_false, not_false_eq_true, true_and, and_true, Int.add_zero, Int.zero_add, Int.cast_ofNat_Int, Int.sub_zero, h74, h10, h66] <;> omega) | (simp (disch := omega) only [w32_id, w64_id, x_up_p, x_up_s, x_up_o, x_fill_p, x_fill_i, x_fill_o, x_cpy_p, x_cpy_i, x_cpy_o, x_upR_p, x_upR_s, x_upR_o, x_zM_p, x_zR_p, x_set_p, x_set_s, tb_CM, tb_SM, xm_cats, xm_cat, List.length_cons, List.length_nil, x_cmp_ge, x_cmp_le, x_cmp_gt, x_cmp_lt, x_cmp_eq, not_true_eq_false, not_false_eq_true, true_and, and_true, Int.add_zero, Int.zero_add, Int.cast_ofNat_Int, Int.sub_zero, h74, h10, h66]; done) | fail) ?_; (conv => whnf)) | (refine sw_in (by first | omega | (simp (disch := omega) only [w32_id, w64_id, x_up_p, x_up_s, x_up_o, x_fill_p, x_fill_i, x_fill_o, x_cpy_p, x_cpy_i, x_cpy_o, x_upR_p, x_upR_s, x_upR_o, x_zM_p, x_zR_p, x_set_p, x_set_s, tb_CM, tb_SM, xm_cats, xm_cat, List.length_cons, List.length_nil, x_cmp_ge, x_cmp_le, x_cmp_gt, x_cmp_lt, x_cmp_eq, not_true_eq_false, not_false_eq_true, true_and, and_true, Int.add_zero, Int.zero_add, Int.cast_ofNat_Int, Int.sub_zero, h74, h10, h66] <;> omega) | (simp (disch := omega) only [w32_id, w64_id, x_up_p, x_up_s, x_up_o, x_fill_p, x_fill_i, x_fill_o, x_cpy_p, x_cpy_i, x_cpy_o, x_upR_p, x_upR_s, x_upR_o, x_zM_p, x_zR_p, x_set_p, x_set_s, tb_CM, tb_SM, xm_cats, xm_cat, List.length_cons, List.length_nil, x_cmp_ge, x_cmp_le, x_cmp_gt, x_cmp_lt, x_cmp_eq, not_true_eq_false, not_false_eq_true, true_and, and_true, Int.add_zero, Int.zero_add, Int.cast_ofNat_Int, Int.sub_zero, h74, h10, h66]; done) | fail) ?_; (conv => whnf)) | (refine sw_hit (by first | omega | (simp (disch := omega) only [w32_id, w64_id, x_up_p, x_up_s, x_up_o, x_fill_p, x_fill_i, x_fill_o, x_cpy_p, x_cpy_i, x_cpy_o, x_upR_p, x_upR_s, x_upR_o, x_zM_p, x_zR_p, x_set_p, x_set_s, tb_CM, tb_SM, xm_cats, xm_cat, List.length_cons, List.length_nil, x_cmp_ge, x_cmp_le, x_cmp_gt, x_cmp_lt, x_cmp_eq, not_true_eq_false, not_false_eq_true, true_and, and_true, Int.add_zero, Int.zero_add, Int.cast_ofNat_Int, Int.sub_zero, h74, h10, h66] <;> omega) | (simp (disch := omega) only [w32_id, w64_id, x_up_p, x_up_s, x_up_o, x_fill_p, x_fill_i, x_fill_o, x_cpy_p, x_cpy_i, x_cpy_o, x_upR_p, x_upR_s, x_upR_o, x_zM_p, x_zR_p, x_set_p, x_set_s, tb_CM, tb_SM, xm_cats, xm_cat, List.length_cons, List.length_nil, x_cmp_ge, x_cmp_le, x_cmp_gt, x_cmp_lt, x_cmp_eq, not_true_eq_false, not_false_eq_true, true_and, and_true, Int.add_zero, Int.zero_add, Int.cast_ofNat_Int, Int.sub_zero, h74, h10, h66]; done) | fail) ?_ (sw_vac (by first | omega | (simp (disch := omega) only [w32_id, w64_id, x_up_p, x_up_s, x_up_o, x_fill_p, x_fill_i, x_fill_o, x_cpy_p, x_cpy_i, x_cpy_o, x_upR_p, x_upR_s, x_upR_o, x_zM_p, x_zR_p, x_set_p, x_set_s, tb_CM, tb_SM, xm_cats, xm_cat, List.length_cons, List.length_nil, x_cmp_ge, x_cmp_le, x_cmp_gt, x_cmp_lt, x_cmp_eq, not_true_eq_false, not_false_eq_true, true_and, and_true, Int.add_zero, Int.zero_add, Int.cast_ofNat_Int, Int.sub_zero, h74, h10, h66] <;> omega) | (simp (disch := omega) only [w32_id, w64_id, x_up_p, x_up_s, x_up_o, x_fill_p, x_fill_i, x_fill_o, x_cpy_p, x_cpy_i, x_cpy_o, x_upR_p, x_upR_s, x_upR_o, x_zM_p, x_zR_p, x_set_p, x_set_s, tb_CM, tb_SM, xm_cats, xm_cat, List.length_cons, List.length_nil, x_cmp_ge, x_cmp_le, x_cmp_gt, x_cmp_lt, x_cmp_eq, not_true_eq_false, not_false_eq_true, true_and, and_true, Int.add_zero, Int.zero_add, Int.cast_ofNat_Int, Int.sub_zero, h74, h10, h66]; done) | fail)); (conv => whnf)) | (refine sw_next (by first | omega | (simp (disch := omega) only [w32_id, w64_id, x_up_p, x_up_s, x_up_o, x_fill_p, x_fill_i, x_fill_o, x_cpy_p, x_cpy_i, x_cpy_o, x_upR_p, x_upR_s, x_upR_o, x_zM_p, x_zR_p, x_set_p, x_set_s, tb_CM, tb_SM, xm_cats, xm_cat, List.length_cons, List.length_nil, x_cmp_ge, x_cmp_le, x_cmp_gt, x_cmp_lt, x_cmp_eq, not_true_eq_false, not_false_eq_true, true_and, and_true, Int.add_zero, Int.zero_add, Int.cast_ofNat_Int, Int.sub_zero, h74, h10, h66] <;> omega) | (simp (disch := omega) only [w32_id, w64_id, x_up_p, x_up_s, x_up_o, x_fill_p, x_fill_i, x_fill_o, x_cpy_p, x_cpy_i, x_cpy_o, x_upR_p, x_upR_s, x_upR_o, x_zM_p, x_zR_p, x_set_p, x_set_s, tb_CM, tb_SM, xm_cats, xm_cat, List.length_cons, List.length_nil, x_cmp_ge, x_cmp_le, x_cmp_gt, x_cmp_lt, x_cmp_eq, not_true_eq_false, not_false_eq_true, true_and, and_true, Int.add_zero, Int.zero_add, Int.cast_ofNat_Int, Int.sub_zero, h74, h10, h66]; done) | fail) ?_; (conv => whnf)) | (refine sw_def (by first | omega | (simp (disch := omega) only [w32_id, w64_id, x_up_p, x_up_s, x_up_o, x_fill_p, x_fill_i, x_fill_o, x_cpy_p, x_cpy_i, x_cpy_o, x_upR_p, x_upR_s, x_upR_o, x_zM_p, x_zR_p, x_set_p, x_set_s, tb_CM, tb_SM, xm_cats, xm_cat, List.length_cons, List.length_nil, x_cmp_ge, x_cmp_le, x_cmp_gt, x_cmp_lt, x_cmp_eq, not_true_eq_false, not_false_eq_true, true_and, and_true, Int.add_zero, Int.zero_add, Int.cast_ofNat_Int, Int.sub_zero, h74, h10, h66] <;> omega) | (simp (disch := omega) only [w32_id, w64_id, x_up_p, x_up_s, x_up_o, x_fill_p, x_fill_i, x_fill_o, x_cpy_p, x_cpy_i, x_cpy_o, x_upR_p, x_upR_s, x_upR_o, x_zM_p, x_zR_p, x_set_p, x_set_s, tb_CM, tb_SM, xm_cats, xm_cat, List.length_cons, List.length_nil, x_cmp_ge, x_cmp_le, x_cmp_gt, x_cmp_lt, x_cmp_eq, not_true_eq_false, not_false_eq_true, true_and, and_true, Int.add_zero, Int.zero_add, Int.cast_ofNat_Int, Int.sub_zero, h74, h10, h66]; done) | fail) ?_; (conv => whnf)) | (refine And.intro (by first | omega | (simp (disch := omega) only [w32_id, w64_id, x_up_p, x_up_s, x_up_o, x_fill_p, x_fill_i, x_fill_o, x_cpy_p, x_cpy_i, x_cpy_o, x_upR_p, x_upR_s, x_upR_o, x_zM_p, x_zR_p, x_set_p, x_set_s, tb_CM, tb_SM, xm_cats, xm_cat, List.length_cons, List.length_nil, x_cmp_ge, x_cmp_le, x_cmp_gt, x_cmp_lt, x_cmp_eq, not_true_eq_false, not_false_eq_true, true_and, and_true, Int.add_zero, Int.zero_add, Int.cast_ofNat_Int, Int.sub_zero, h74, h10, h66] <;> omega) | (simp (disch := omega) only [w32_id, w64_id, x_up_p, x_up_s, x_up_o, x_fill_p, x_fill_i, x_fill_o, x_cpy_p, x_cpy_i, x_cpy_o, x_upR_p, x_upR_s, x_upR_o, x_zM_p, x_zR_p, x_set_p, x_set_s, tb_CM, tb_SM, xm_cats, xm_cat, List.length_cons, List.length_nil, x_cmp_ge, x_cmp_le, x_cmp_gt, x_cmp_lt, x_cmp_eq, not_true_eq_false, not_false_eq_true, true_and, and_true, Int.add_zero, Int.zero_add, Int.cast_ofNat_Int, Int.sub_zero, h74, h10, h66]; done) | fail) ?_; (conv => whnf)))
    try simp (disch := omega) only [w32_id, w64_id, x_up_p, x_up_s, x_up_o, x_fill_p, x_fill_i, x_fill_o, x_cpy_p, x_cpy_i, x_cpy_o, x_upR_p, x_upR_s, x_upR_o, x_zM_p, x_zR_p, x_set_p, x_set_s, tb_CM, tb_SM, xm_cats, xm_cat, List.length_cons, List.length_nil, x_cmp_ge, x_cmp_le, x_cmp_gt, x_cmp_lt, x_cmp_eq, not_true_eq_false, not_false_eq_true, true_and, and_true, Int.add_zero, Int.zero_add, Int.cast_ofNat_Int, Int.sub_zero, h74, h66]
    exact fin
set_option linter.unusedSimpArgs false in
set_option maxRecDepth 100000 in
set_option maxHeartbeats 4000000 in
theorem l_61y (hE : ∀ j, (eX j).1 ≤ 1000000) {M0 : Nat → Int → Int} {c a g i fs : Int} (hc : c < 0) (h74 : M 81 74 = c) (h7 : M 81 7 = a) (h66 : M 81 66 = g) (hf : fCh M0 M) (h10 : M 81 10 = fs) (hi : 0 ≤ i ∧ i ≤ fs ∧ fs ≤ 9) (hQ : ∀ M', cX M0 M' c a g → Q (.inl (some (.inl c))) (ρ, e, M', R, sl)) : xm_J tb_P eX tb_K0 174 (d + 22) 61 Q 21 [(0, .inr (.inr (some 82))), (1, .inl i)] [] (ρ, e, M, R, sl) := by
  have go := l_61x (d := d) (M0 := M0) (M := M) (ρ := ρ) (e := e) (R := R) (sl := sl) (i := 0) hE hc h74 h7 h66 hf h10 (by omega) hQ
  by_cases hlt : i < fs
  all_goals
    refine xm_on hE (fun k pc => if Nat.beq k 61 && Nat.beq pc 49 then some [0, 1] else none) (fun _ => false) (fun F C hF hC => ?_)
    (conv => whnf)
    repeat (first | (refine br_t (by first | omega | (simp (disch := omega) only [w32_id, w64_id, x_up_p, x_up_s, x_up_o, x_fill_p, x_fill_i, x_fill_o, x_cpy_p, x_cpy_i, x_cpy_o, x_upR_p, x_upR_s, x_upR_o, x_zM_p, x_zR_p, x_set_p, x_set_s, tb_CM, tb_SM, xm_cats, xm_cat, List.length_cons, List.length_nil, x_cmp_ge, x_cmp_le, x_cmp_gt, x_cmp_lt, x_cmp_eq, not_true_eq_false, not_false_eq_true, true_and, and_true, Int.add_zero, Int.zero_add, Int.cast_ofNat_Int, Int.sub_zero, h74, h10] <;> omega) | (simp (disch := omega) only [w32_id, w64_id, x_up_p, x_up_s, x_up_o, x_fill_p, x_fill_i, x_fill_o, x_cpy_p, x_cpy_i, x_cpy_o, x_upR_p, x_upR_s, x_upR_o, x_zM_p, x_zR_p, x_set_p, x_set_s, tb_CM, tb_SM, xm_cats, xm_cat, List.length_cons, List.length_nil, x_cmp_ge, x_cmp_le, x_cmp_gt, x_cmp_lt, x_cmp_eq, not_true_eq_false, not_false_eq_true, true_and, and_true, Int.add_zero, Int.zero_add, Int.cast_ofNat_Int, Int.sub_zero, h74, h10]; done) | fail) ?_; (conv => whnf)) | (refine br_f (by first | omega | (simp (disch := omega) only [w32_id, w64_id, x_up_p, x_up_s, x_up_o, x_fill_p, x_fill_i, x_fill_o, x_cpy_p, x_cpy_i, x_cpy_o, x_upR_p, x_upR_s, x_upR_o, x_zM_p, x_zR_p, x_set_p, x_set_s, tb_CM, tb_SM, xm_cats, xm_cat, List.length_cons, List.length_nil, x_cmp_ge, x_cmp_le, x_cmp_gt, x_cmp_lt, x_cmp_eq, not_true_eq_false, not_false_eq_true, true_and, and_true, Int.add_zero, Int.zero_add, Int.cast_ofNat_Int, Int.sub_zero, h74, h10] <;> omega) | (simp (disch := omega) only [w32_id, w64_id, x_up_p, x_up_s, x_up_o, x_fill_p, x_fill_i, x_fill_o, x_cpy_p, x_cpy_i, x_cpy_o, x_upR_p, x_upR_s, x_upR_o, x_zM_p, x_zR_p, x_set_p, x_set_s, tb_CM, tb_SM, xm_cats, xm_cat, List.length_cons, List.length_nil, x_cmp_ge, x_cmp_le, x_cmp_gt, x_cmp_lt, x_cmp_eq, not_true_eq_false, not_false_eq_true, true_and, and_true, Int.add_zero, Int.zero_add, Int.cast_ofNat_Int, Int.sub_zero, h74, h10]; done) | fail) ?_; (conv => whnf)) | (refine sw_in (by first | omega | (simp (disch := omega) only [w32_id, w64_id, x_up_p, x_up_s, x_up_o, x_fill_p, x_fill_i, x_fill_o, x_cpy_p, x_cpy_i, x_cpy_o, x_upR_p, x_upR_s, x_upR_o, x_zM_p, x_zR_p, x_set_p, x_set_s, tb_CM, tb_SM, xm_cats, xm_cat, List.length_cons, List.length_nil, x_cmp_ge, x_cmp_le, x_cmp_gt, x_cmp_lt, x_cmp_eq, not_true_eq_false, not_false_eq_true, true_and, and_true, Int.add_zero, Int.zero_add, Int.cast_ofNat_Int, Int.sub_zero, h74, h10] <;> omega) | (simp (disch := omega) only [w32_id, w64_id, x_up_p, x_up_s, x_up_o, x_fill_p, x_fill_i, x_fill_o, x_cpy_p, x_cpy_i, x_cpy_o, x_upR_p, x_upR_s, x_upR_o, x_zM_p, x_zR_p, x_set_p, x_set_s, tb_CM, tb_SM, xm_cats, xm_cat, List.length_cons, List.length_nil, x_cmp_ge, x_cmp_le, x_cmp_gt, x_cmp_lt, x_cmp_eq, not_true_eq_false, not_false_eq_true, true_and, and_true, Int.add_zero, Int.zero_add, Int.cast_ofNat_Int, Int.sub_zero, h74, h10]; done) | fail) ?_; (conv => whnf)) | (refine sw_hit (by first | omega | (simp (disch := omega) only [w32_id, w64_id, x_up_p, x_up_s, x_up_o, x_fill_p, x_fill_i, x_fill_o, x_cpy_p, x_cpy_i, x_cpy_o, x_upR_p, x_upR_s, x_upR_o, x_zM_p, x_zR_p, x_set_p, x_set_s, tb_CM, tb_SM, xm_cats, xm_cat, List.length_cons, List.length_nil, x_cmp_ge, x_cmp_le, x_cmp_gt, x_cmp_lt, x_cmp_eq, not_true_eq_false, not_false_eq_true, true_and, and_true, Int.add_zero, Int.zero_add, Int.cast_ofNat_Int, Int.sub_zero, h74, h10] <;> omega) | (simp (disch := omega) only [w32_id, w64_id, x_up_p, x_up_s, x_up_o, x_fill_p, x_fill_i, x_fill_o, x_cpy_p, x_cpy_i, x_cpy_o, x_upR_p, x_upR_s, x_upR_o, x_zM_p, x_zR_p, x_set_p, x_set_s, tb_CM, tb_SM, xm_cats, xm_cat, List.length_cons, List.length_nil, x_cmp_ge, x_cmp_le, x_cmp_gt, x_cmp_lt, x_cmp_eq, not_true_eq_false, not_false_eq_true, true_and, and_true, Int.add_zero, Int.zero_add, Int.cast_ofNat_Int, Int.sub_zero, h74, h10]; done) | fail) ?_ (sw_vac (by first | omega | (simp (disch := omega) only [w32_id, w64_id, x_up_p, x_up_s, x_up_o, x_fill_p, x_fill_i, x_fill_o, x_cpy_p, x_cpy_i, x_cpy_o, x_upR_p, x_upR_s, x_upR_o, x_zM_p, x_zR_p, x_set_p, x_set_s, tb_CM, tb_SM, xm_cats, xm_cat, List.length_cons, List.length_nil, x_cmp_ge, x_cmp_le, x_cmp_gt, x_cmp_lt, x_cmp_eq, not_true_eq_false, not_false_eq_true, true_and, and_true, Int.add_zero, Int.zero_add, Int.cast_ofNat_Int, Int.sub_zero, h74, h10] <;> omega) | (simp (disch := omega) only [w32_id, w64_id, x_up_p, x_up_s, x_up_o, x_fill_p, x_fill_i, x_fill_o, x_cpy_p, x_cpy_i, x_cpy_o, x_upR_p, x_upR_s, x_upR_o, x_zM_p, x_zR_p, x_set_p, x_set_s, tb_CM, tb_SM, xm_cats, xm_cat, List.length_cons, List.length_nil, x_cmp_ge, x_cmp_le, x_cmp_gt, x_cmp_lt, x_cmp_eq, not_true_eq_false, not_false_eq_true, true_and, and_true, Int.add_zero, Int.zero_add, Int.cast_ofNat_Int, Int.sub_zero, h74, h10]; done) | fail)); (conv => whnf)) | (refine sw_next (by first | omega | (simp (disch := omega) only [w32_id, w64_id, x_up_p, x_up_s, x_up_o, x_fill_p, x_fill_i, x_fill_o, x_cpy_p, x_cpy_i, x_cpy_o, x_upR_p, x_upR_s, x_upR_o, x_zM_p, x_zR_p, x_set_p, x_set_s, tb_CM, tb_SM, xm_cats, xm_cat, List.length_cons, List.length_nil, x_cmp_ge, x_cmp_le, x_cmp_gt, x_cmp_lt, x_cmp_eq, not_true_eq_false, not_false_eq_true, true_and, and_true, Int.add_zero, Int.zero_add, Int.cast_ofNat_Int, Int.sub_zero, h74, h10] <;> omega) | (simp (disch := omega) only [w32_id, w64_id, x_up_p, x_up_s, x_up_o, x_fill_p, x_fill_i, x_fill_o, x_cpy_p, x_cpy_i, x_cpy_o, x_upR_p, x_upR_s, x_upR_o, x_zM_p, x_zR_p, x_set_p, x_set_s, tb_CM, tb_SM, xm_cats, xm_cat, List.length_cons, List.length_nil, x_cmp_ge, x_cmp_le, x_cmp_gt, x_cmp_lt, x_cmp_eq, not_true_eq_false, not_false_eq_true, true_and, and_true, Int.add_zero, Int.zero_add, Int.cast_ofNat_Int, Int.sub_zero, h74, h10]; done) | fail) ?_; (conv => whnf)) | (refine sw_def (by first | omega | (simp (disch := omega) only [w32_id, w64_id, x_up_p, x_up_s, x_up_o, x_fill_p, x_fill_i, x_fill_o, x_cpy_p, x_cpy_i, x_cpy_o, x_upR_p, x_upR_s, x_upR_o, x_zM_p, x_zR_p, x_set_p, x_set_s, tb_CM, tb_SM, xm_cats, xm_cat, List.length_cons, List.length_nil, x_cmp_ge, x_cmp_le, x_cmp_gt, x_cmp_lt, x_cmp_eq, not_true_eq_false, not_false_eq_true, true_and, and_true, Int.add_zero, Int.zero_add, Int.cast_ofNat_Int, Int.sub_zero, h74, h10] <;> omega) | (simp (disch := omega) only [w32_id, w64_id, x_up_p, x_up_s, x_up_o, x_fill_p, x_fill_i, x_fill_o, x_cpy_p, x_cpy_i, x_cpy_o, x_upR_p, x_upR_s, x_upR_o, x_zM_p, x_zR_p, x_set_p, x_set_s, tb_CM, tb_SM, xm_cats, xm_cat, List.length_cons, List.length_nil, x_cmp_ge, x_cmp_le, x_cmp_gt, x_cmp_lt, x_cmp_eq, not_true_eq_false, not_false_eq_true, true_and, and_true, Int.add_zero, Int.zero_add, Int.cast_ofNat_Int, Int.sub_zero, h74, h10]; done) | fail) ?_; (conv => whnf)) | (refine And.intro (by first | omega | (simp (disch := omega) only [w32_id, w64_id, x_up_p, x_up_s, x_up_o, x_fill_p, x_fill_i, x_fill_o, x_cpy_p, x_cpy_i, x_cpy_o, x_upR_p, x_upR_s, x_upR_o, x_zM_p, x_zR_p, x_set_p, x_set_s, tb_CM, tb_SM, xm_cats, xm_cat, List.length_cons, List.length_nil, x_cmp_ge, x_cmp_le, x_cmp_gt, x_cmp_lt, x_cmp_eq, not_true_eq_false, not_false_eq_true, true_and, and_true, Int.add_zero, Int.zero_add, Int.cast_ofNat_Int, Int.sub_zero, h74, h10] <;> omega) | (simp (disch := omega) only [w32_id, w64_id, x_up_p, x_up_s, x_up_o, x_fill_p, x_fill_i, x_fill_o, x_cpy_p, x_cpy_i, x_cpy_o, x_upR_p, x_upR_s, x_upR_o, x_zM_p, x_zR_p, x_set_p, x_set_s, tb_CM, tb_SM, xm_cats, xm_cat, List.length_cons, List.length_nil, x_cmp_ge, x_cmp_le, x_cmp_gt, x_cmp_lt, x_cmp_eq, not_true_eq_false, not_false_eq_true, true_and, and_true, Int.add_zero, Int.zero_add, Int.cast_ofNat_Int, Int.sub_zero, h74, h10]; done) | fail) ?_; (conv => whnf)))
    exact hF _ _ _ _ _ _ _ go
-- all headers
set_option linter.unusedSimpArgs false in
set_option maxRecDepth 100000 in
set_option maxHeartbeats 4000000 in
theorem l_61a (hE : ∀ j, (eX j).1 ≤ 1000000) {fs : Int} (h9 : 0 ≤ fs ∧ fs ≤ 9) (hfs : M 81 10 = fs) (hV : ∀ g, 0 ≤ g → g < fs → vF M g) : ∀ (n : Nat) (f : Int) (s : k_s) (M1 : Nat → Int → Int), 0 ≤ f → f + n = fs → fCh M M1 → qG M1 s → M1 103 = s.2.2.2 → M1 81 74 = 0 → M1 81 7 = M 81 7 ∧ M1 81 66 = M 81 66 → (∀ s', k_c1 M f n s = .inr s' → ∀ M2, fCh M M2 → qG M2 s' → M2 103 = s'.2.2.2 → M2 81 74 = 0 → M2 81 7 = M 81 7 ∧ M2 81 66 = M 81 66 → xm_J tb_P eX tb_K0 174 (d + 22) 61 Q 21 [(0, .inr (.inr (some 82))), (1, .inl fs)] [] (ρ, e, M2, R, sl)) → (∀ c a g, k_c1 M f n s = .inl (c, a, g) → ∀ M', cX M M' c a g → Q (.inl (some (.inl c))) (ρ, e, M', R, sl)) → xm_J tb_P eX tb_K0 174 (d + 22) 61 Q 21 [(0, .inr (.inr (some 82))), (1, .inl f)] [] (ρ, e, M1, R, sl) := by
  intro n
  induction n with
  | zero =>
    intro f s M1 f0 hf hc hq h103 h74 h766 hK hX
    have : f = fs := by omega
    rw [this]
    exact hK s rfl M1 hc hq h103 h74 h766
  | succ n ih =>
    intro f s M1 f0 hf hc hq h103 h74 h766 hK hX
    have hT : ∀ x, 86 ≤ x → x ≤ 117 → x ≠ 103 → M1 x = M x := fun x a b c => hc.1 x (by omega) c (by omega)
    have e10 : M1 81 10 = fs := by rw [hc.2 10 (by unfold cJ; omega)]; exact hfs
    have sp : k_c1 M f (n + 1) s = match k_hd M f s with
      | .inl z => .inl (z.1, z.2, f)
      | .inr y => k_c1 M (f + 1) n y.2.1 := rfl
    refine xm_on hE (fun k pc => if Nat.beq k 61 && Nat.beq pc 21 then some [0, 1] else none) (fun k => !(Nat.beq k 62)) (fun F C hF hC => ?_)
    (conv => whnf)
    repeat (first | (refine br_t (by first | omega | (simp (disch := omega) only [w32_id, w64_id, x_up_p, x_up_s, x_up_o, x_fill_p, x_fill_i, x_fill_o, x_cpy_p, x_cpy_i, x_cpy_o, x_upR_p, x_upR_s, x_upR_o, x_zM_p, x_zR_p, x_set_p, x_set_s, tb_CM, tb_SM, xm_cats, xm_cat, List.length_cons, List.length_nil, x_cmp_ge, x_cmp_le, x_cmp_gt, x_cmp_lt, x_cmp_eq, not_true_eq_false, not_false_eq_true, true_and, and_true, Int.add_zero, Int.zero_add, Int.cast_ofNat_Int, Int.sub_zero, e10, h74] <;> omega) | (simp (disch := omega) only [w32_id, w64_id, x_up_p, x_up_s, x_up_o, x_fill_p, x_fill_i, x_fill_o, x_cpy_p, x_cpy_i, x_cpy_o, x_upR_p, x_upR_s, x_upR_o, x_zM_p, x_zR_p, x_set_p, x_set_s, tb_CM, tb_SM, xm_cats, xm_cat, List.length_cons, List.length_nil, x_cmp_ge, x_cmp_le, x_cmp_gt, x_cmp_lt, x_cmp_eq, not_true_eq_false, not_false_eq_true, true_and, and_true, Int.add_zero, Int.zero_add, Int.cast_ofNat_Int, Int.sub_zero, e10, h74]; done) | fail) ?_; (conv => whnf)) | (refine br_f (by first | omega | (simp (disch := omega) only [w32_id, w64_id, x_up_p, x_up_s, x_up_o, x_fill_p, x_fill_i, x_fill_o, x_cpy_p, x_cpy_i, x_cpy_o, x_upR_p, x_upR_s, x_upR_o, x_zM_p, x_zR_p, x_set_p, x_set_s, tb_CM, tb_SM, xm_cats, xm_cat, List.length_cons, List.length_nil, x_cmp_ge, x_cmp_le, x_cmp_gt, x_cmp_lt, x_cmp_eq, not_true_eq_false, not_false_eq_true, true_and, and_true, Int.add_zero, Int.zero_add, Int.cast_ofNat_Int, Int.sub_zero, e10, h74] <;> omega) | (simp (disch := omega) only [w32_id, w64_id, x_up_p, x_up_s, x_up_o, x_fill_p, x_fill_i, x_fill_o, x_cpy_p, x_cpy_i, x_cpy_o, x_upR_p, x_upR_s, x_upR_o, x_zM_p, x_zR_p, x_set_p, x_set_s, tb_CM, tb_SM, xm_cats, xm_cat, List.length_cons, List.length_nil, x_cmp_ge, x_cmp_le, x_cmp_gt, x_cmp_lt, x_cmp_eq, not_true_eq_false, not_false_eq_true, true_and, and_true, Int.add_zero, Int.zero_add, Int.cast_ofNat_Int, Int.sub_zero, e10, h74]; done) | fail) ?_; (conv => whnf)) | (refine sw_in (by first | omega | (simp (disch := omega) only [w32_id, w64_id, x_up_p, x_up_s, x_up_o, x_fill_p, x_fill_i, x_fill_o, x_cpy_p, x_cpy_i, x_cpy_o, x_upR_p, x_upR_s, x_upR_o, x_zM_p, x_zR_p, x_set_p, x_set_s, tb_CM, tb_SM, xm_cats, xm_cat, List.length_cons, List.length_nil, x_cmp_ge, x_cmp_le, x_cmp_gt, x_cmp_lt, x_cmp_eq, not_true_eq_false, not_false_eq_true, true_and, and_true, Int.add_zero, Int.zero_add, Int.cast_ofNat_Int, Int.sub_zero, e10, h74] <;> omega) | (simp (disch := omega) only [w32_id, w64_id, x_up_p, x_up_s, x_up_o, x_fill_p, x_fill_i, x_fill_o, x_cpy_p, x_cpy_i, x_cpy_o, x_upR_p, x_upR_s, x_upR_o, x_zM_p, x_zR_p, x_set_p, x_set_s, tb_CM, tb_SM, xm_cats, xm_cat, List.length_cons, List.length_nil, x_cmp_ge, x_cmp_le, x_cmp_gt, x_cmp_lt, x_cmp_eq, not_true_eq_false, not_false_eq_true, true_and, and_true, Int.add_zero, Int.zero_add, Int.cast_ofNat_Int, Int.sub_zero, e10, h74]; done) | fail) ?_; (conv => whnf)) | (refine sw_hit (by first | omega | (simp (disch := omega) only [w32_id, w64_id, x_up_p, x_up_s, x_up_o, x_fill_p, x_fill_i, x_fill_o, x_cpy_p, x_cpy_i, x_cpy_o, x_upR_p, x_upR_s, x_upR_o, x_zM_p, x_zR_p, x_set_p, x_set_s, tb_CM, tb_SM, xm_cats, xm_cat, List.length_cons, List.length_nil, x_cmp_ge, x_cmp_le, x_cmp_gt, x_cmp_lt, x_cmp_eq, not_true_eq_false, not_false_eq_true, true_and, and_true, Int.add_zero, Int.zero_add, Int.cast_ofNat_Int, Int.sub_zero, e10, h74] <;> omega) | (simp (disch := omega) only [w32_id, w64_id, x_up_p, x_up_s, x_up_o, x_fill_p, x_fill_i, x_fill_o, x_cpy_p, x_cpy_i, x_cpy_o, x_upR_p, x_upR_s, x_upR_o, x_zM_p, x_zR_p, x_set_p, x_set_s, tb_CM, tb_SM, xm_cats, xm_cat, List.length_cons, List.length_nil, x_cmp_ge, x_cmp_le, x_cmp_gt, x_cmp_lt, x_cmp_eq, not_true_eq_false, not_false_eq_true, true_and, and_true, Int.add_zero, Int.zero_add, Int.cast_ofNat_Int, Int.sub_zero, e10, h74]; done) | fail) ?_ (sw_vac (by first | omega | (simp (disch := omega) only [w32_id, w64_id, x_up_p, x_up_s, x_up_o, x_fill_p, x_fill_i, x_fill_o, x_cpy_p, x_cpy_i, x_cpy_o, x_upR_p, x_upR_s, x_upR_o, x_zM_p, x_zR_p, x_set_p, x_set_s, tb_CM, tb_SM, xm_cats, xm_cat, List.length_cons, List.length_nil, x_cmp_ge, x_cmp_le, x_cmp_gt, x_cmp_lt, x_cmp_eq, not_true_eq_false, not_false_eq_true, true_and, and_true, Int.add_zero, Int.zero_add, Int.cast_ofNat_Int, Int.sub_zero, e10, h74] <;> omega) | (simp (disch := omega) only [w32_id, w64_id, x_up_p, x_up_s, x_up_o, x_fill_p, x_fill_i, x_fill_o, x_cpy_p, x_cpy_i, x_cpy_o, x_upR_p, x_upR_s, x_upR_o, x_zM_p, x_zR_p, x_set_p, x_set_s, tb_CM, tb_SM, xm_cats, xm_cat, List.length_cons, List.length_nil, x_cmp_ge, x_cmp_le, x_cmp_gt, x_cmp_lt, x_cmp_eq, not_true_eq_false, not_false_eq_true, true_and, and_true, Int.add_zero, Int.zero_add, Int.cast_ofNat_Int, Int.sub_zero, e10, h74]; done) | fail)); (conv => whnf)) | (refine sw_next (by first | omega | (simp (disch := omega) only [w32_id, w64_id, x_up_p, x_up_s, x_up_o, x_fill_p, x_fill_i, x_fill_o, x_cpy_p, x_cpy_i, x_cpy_o, x_upR_p, x_upR_s, x_upR_o, x_zM_p, x_zR_p, x_set_p, x_set_s, tb_CM, tb_SM, xm_cats, xm_cat, List.length_cons, List.length_nil, x_cmp_ge, x_cmp_le, x_cmp_gt, x_cmp_lt, x_cmp_eq, not_true_eq_false, not_false_eq_true, true_and, and_true, Int.add_zero, Int.zero_add, Int.cast_ofNat_Int, Int.sub_zero, e10, h74] <;> omega) | (simp (disch := omega) only [w32_id, w64_id, x_up_p, x_up_s, x_up_o, x_fill_p, x_fill_i, x_fill_o, x_cpy_p, x_cpy_i, x_cpy_o, x_upR_p, x_upR_s, x_upR_o, x_zM_p, x_zR_p, x_set_p, x_set_s, tb_CM, tb_SM, xm_cats, xm_cat, List.length_cons, List.length_nil, x_cmp_ge, x_cmp_le, x_cmp_gt, x_cmp_lt, x_cmp_eq, not_true_eq_false, not_false_eq_true, true_and, and_true, Int.add_zero, Int.zero_add, Int.cast_ofNat_Int, Int.sub_zero, e10, h74]; done) | fail) ?_; (conv => whnf)) | (refine sw_def (by first | omega | (simp (disch := omega) only [w32_id, w64_id, x_up_p, x_up_s, x_up_o, x_fill_p, x_fill_i, x_fill_o, x_cpy_p, x_cpy_i, x_cpy_o, x_upR_p, x_upR_s, x_upR_o, x_zM_p, x_zR_p, x_set_p, x_set_s, tb_CM, tb_SM, xm_cats, xm_cat, List.length_cons, List.length_nil, x_cmp_ge, x_cmp_le, x_cmp_gt, x_cmp_lt, x_cmp_eq, not_true_eq_false, not_false_eq_true, true_and, and_true, Int.add_zero, Int.zero_add, Int.cast_ofNat_Int, Int.sub_zero, e10, h74] <;> omega) | (simp (disch := omega) only [w32_id, w64_id, x_up_p, x_up_s, x_up_o, x_fill_p, x_fill_i, x_fill_o, x_cpy_p, x_cpy_i, x_cpy_o, x_upR_p, x_upR_s, x_upR_o, x_zM_p, x_zR_p, x_set_p, x_set_s, tb_CM, tb_SM, xm_cats, xm_cat, List.length_cons, List.length_nil, x_cmp_ge, x_cmp_le, x_cmp_gt, x_cmp_lt, x_cmp_eq, not_true_eq_false, not_false_eq_true, true_and, and_true, Int.add_zero, Int.zero_add, Int.cast_ofNat_Int, Int.sub_zero, e10, h74]; done) | fail) ?_; (conv => whnf)) | (refine And.intro (by first | omega | (simp (disch := omega) only [w32_id, w64_id, x_up_p, x_up_s, x_up_o, x_fill_p, x_fill_i, x_fill_o, x_cpy_p, x_cpy_i, x_cpy_o, x_upR_p, x_upR_s, x_upR_o, x_zM_p, x_zR_p, x_set_p, x_set_s, tb_CM, tb_SM, xm_cats, xm_cat, List.length_cons, List.length_nil, x_cmp_ge, x_cmp_le, x_cmp_gt, x_cmp_lt, x_cmp_eq, not_true_eq_false, not_false_eq_true, true_and, and_true, Int.add_zero, Int.zero_add, Int.cast_ofNat_Int, Int.sub_zero, e10, h74] <;> omega) | (simp (disch := omega) only [w32_id, w64_id, x_up_p, x_up_s, x_up_o, x_fill_p, x_fill_i, x_fill_o, x_cpy_p, x_cpy_i, x_cpy_o, x_upR_p, x_upR_s, x_upR_o, x_zM_p, x_zR_p, x_set_p, x_set_s, tb_CM, tb_SM, xm_cats, xm_cat, List.length_cons, List.length_nil, x_cmp_ge, x_cmp_le, x_cmp_gt, x_cmp_lt, x_cmp_eq, not_true_eq_false, not_false_eq_true, true_and, and_true, Int.add_zero, Int.zero_add, Int.cast_ofNat_Int, Int.sub_zero, e10, h74]; done) | fail) ?_; (conv => whnf)))
    refine hC _ _ _ _ _ (y_62 (d := d + 8) (M := M1) (ρ := ρ) (e := e) (R := R) (sl := sl) (f := f) (s := s) hE (by omega) h74 (vF_T hT (hV f f0 (by omega))) hq h103 (fun y hy M2 m1 m2 => ?_) (fun c a hy hcn M2 m1 m2 m3 m4 => ?_))
    · rw [k_hd_T hT] at hy
      rw [hy] at sp
      have go := ih (f + 1) y.2.1 M2 (by omega) (by omega) (fCh_tr hc (fCh_g m2)) (qG_S m1.2.2.2.2.1.1) m1.2.2.2.2.2.1 m1.2.1.1 ⟨m1.2.2.2.2.2.2.2.2.2.1.trans h766.1, m1.2.2.2.2.2.2.2.2.2.2.trans h766.2⟩ (fun s' hs' => hK s' (sp.trans hs')) (fun c a g hs' => hX c a g (sp.trans hs'))
      (conv => whnf)
      refine hF _ _ _ _ _ _ _ ?_
      try simp (disch := omega) only [w32_id, w64_id, x_up_p, x_up_s, x_up_o, x_fill_p, x_fill_i, x_fill_o, x_cpy_p, x_cpy_i, x_cpy_o, x_upR_p, x_upR_s, x_upR_o, x_zM_p, x_zR_p, x_set_p, x_set_s, tb_CM, tb_SM, xm_cats, xm_cat, List.length_cons, List.length_nil, x_cmp_ge, x_cmp_le, x_cmp_gt, x_cmp_lt, x_cmp_eq, not_true_eq_false, not_false_eq_true, true_and, and_true, Int.add_zero, Int.zero_add, Int.cast_ofNat_Int, Int.sub_zero]
      exact go
    · rw [k_hd_T hT] at hy
      rw [hy] at sp
      have go := l_61y (d := d) (M0 := M) (M := M2) (ρ := ρ) (e := e) (R := R) (sl := sl) (i := f + 1) hE hcn m2 m3 m4 (fCh_tr hc (fCh_g m1)) (by rw [(fCh_g m1).2 10 (by unfold cJ; omega)]; exact e10) (by omega) (fun M' hx => hX c a f sp M' hx)
      (conv => whnf)
      refine hF _ _ _ _ _ _ _ ?_
      try simp (disch := omega) only [w32_id, w64_id, x_up_p, x_up_s, x_up_o, x_fill_p, x_fill_i, x_fill_o, x_cpy_p, x_cpy_i, x_cpy_o, x_upR_p, x_upR_s, x_upR_o, x_zM_p, x_zR_p, x_set_p, x_set_s, tb_CM, tb_SM, xm_cats, xm_cat, List.length_cons, List.length_nil, x_cmp_ge, x_cmp_le, x_cmp_gt, x_cmp_lt, x_cmp_eq, not_true_eq_false, not_false_eq_true, true_and, and_true, Int.add_zero, Int.zero_add, Int.cast_ofNat_Int, Int.sub_zero]
      exact go
-- all bodies
set_option linter.unusedSimpArgs false in
set_option maxRecDepth 100000 in
set_option maxHeartbeats 4000000 in
theorem l_61b (hE : ∀ j, (eX j).1 ≤ 1000000) {fs : Int} {N : Int → Nat} (h9 : 0 ≤ fs ∧ fs ≤ 9) (hfs : M 81 10 = fs) (hG : vG M fs) (hV : ∀ g, 0 ≤ g → g < fs → vF M g ∧ ∃ L t w, 2 * (L : Int) ≤ N g ∧ vn M L (M 95 g) t w ∧ t ≤ 689 ∧ w ≤ 290) : ∀ (n : Nat) (f : Int) (s : k_s) (M1 : Nat → Int → Int), 0 ≤ f → f + n = fs → fCh M M1 → qG M1 s → M1 103 = s.2.2.2 → M1 81 74 = 0 → M1 81 7 = M 81 7 ∧ M1 81 66 = M 81 66 → (∀ s', k_c2 M fs N f n s = .inr s' → ∀ M2, fCh M M2 → qG M2 s' → M2 103 = s'.2.2.2 → M2 81 74 = 0 → M2 81 7 = M 81 7 ∧ M2 81 66 = M 81 66 → xm_J tb_P eX tb_K0 174 (d + 22) 61 Q 49 [(0, .inr (.inr (some 82))), (1, .inl fs)] [] (ρ, e, M2, R, sl)) → (∀ c a g, k_c2 M fs N f n s = .inl (c, a, g) → ∀ M', cX M M' c a g → Q (.inl (some (.inl c))) (ρ, e, M', R, sl)) → xm_J tb_P eX tb_K0 174 (d + 22) 61 Q 49 [(0, .inr (.inr (some 82))), (1, .inl f)] [] (ρ, e, M1, R, sl) := by
  intro n
  induction n with
  | zero =>
    intro f s M1 f0 hf hc hq h103 h74 h766 hK hX
    have : f = fs := by omega
    rw [this]
    exact hK s rfl M1 hc hq h103 h74 h766
  | succ n ih =>
    intro f s M1 f0 hf hc hq h103 h74 h766 hK hX
    obtain ⟨hvF, L, t, wv, hL, hvn, ht, hwv⟩ := hV f f0 (by omega)
    have hT : ∀ x, 86 ≤ x → x ≤ 118 → x ≠ 103 → M1 x = M x := fun x a b c => hc.1 x (by omega) c (by omega)
    have hT' : ∀ x, 86 ≤ x → x ≤ 117 → x ≠ 103 → M1 x = M x := fun x a b c => hT x a (by omega) c
    have e10 : M1 81 10 = fs := by rw [hc.2 10 (by unfold cJ; omega)]; exact hfs
    have sp : k_c2 M fs N f (n + 1) s = match k_hd M f s with
      | .inl z => .inl (z.1, z.2, f)
      | .inr y => match k_ck M fs f (N f) (some y.2.2) (M 95 f) y.1 y.2.1 with
        | .inl z => .inl (z.1, z.2, f)
        | .inr x => k_c2 M fs N (f + 1) n x.1 := rfl
    have hh : ∃ y, k_hd M f s = .inr y := by
      obtain ⟨_, _, _, _, _, _, _, s0, z, hz⟩ := hG f f0 (by omega)
      exact k_hd_any hz
    refine xm_on hE (fun k pc => if Nat.beq k 61 && Nat.beq pc 49 then some [0, 1] else none) (fun k => !(Nat.beq k 62 || Nat.beq k 85)) (fun F C hF hC => ?_)
    (conv => whnf)
    repeat (first | (refine br_t (by first | omega | (simp (disch := omega) only [w32_id, w64_id, x_up_p, x_up_s, x_up_o, x_fill_p, x_fill_i, x_fill_o, x_cpy_p, x_cpy_i, x_cpy_o, x_upR_p, x_upR_s, x_upR_o, x_zM_p, x_zR_p, x_set_p, x_set_s, tb_CM, tb_SM, xm_cats, xm_cat, List.length_cons, List.length_nil, x_cmp_ge, x_cmp_le, x_cmp_gt, x_cmp_lt, x_cmp_eq, not_true_eq_false, not_false_eq_true, true_and, and_true, Int.add_zero, Int.zero_add, Int.cast_ofNat_Int, Int.sub_zero, e10, h74] <;> omega) | (simp (disch := omega) only [w32_id, w64_id, x_up_p, x_up_s, x_up_o, x_fill_p, x_fill_i, x_fill_o, x_cpy_p, x_cpy_i, x_cpy_o, x_upR_p, x_upR_s, x_upR_o, x_zM_p, x_zR_p, x_set_p, x_set_s, tb_CM, tb_SM, xm_cats, xm_cat, List.length_cons, List.length_nil, x_cmp_ge, x_cmp_le, x_cmp_gt, x_cmp_lt, x_cmp_eq, not_true_eq_false, not_false_eq_true, true_and, and_true, Int.add_zero, Int.zero_add, Int.cast_ofNat_Int, Int.sub_zero, e10, h74]; done) | fail) ?_; (conv => whnf)) | (refine br_f (by first | omega | (simp (disch := omega) only [w32_id, w64_id, x_up_p, x_up_s, x_up_o, x_fill_p, x_fill_i, x_fill_o, x_cpy_p, x_cpy_i, x_cpy_o, x_upR_p, x_upR_s, x_upR_o, x_zM_p, x_zR_p, x_set_p, x_set_s, tb_CM, tb_SM, xm_cats, xm_cat, List.length_cons, List.length_nil, x_cmp_ge, x_cmp_le, x_cmp_gt, x_cmp_lt, x_cmp_eq, not_true_eq_false, not_false_eq_true, true_and, and_true, Int.add_zero, Int.zero_add, Int.cast_ofNat_Int, Int.sub_zero, e10, h74] <;> omega) | (simp (disch := omega) only [w32_id, w64_id, x_up_p, x_up_s, x_up_o, x_fill_p, x_fill_i, x_fill_o, x_cpy_p, x_cpy_i, x_cpy_o, x_upR_p, x_upR_s, x_upR_o, x_zM_p, x_zR_p, x_set_p, x_set_s, tb_CM, tb_SM, xm_cats, xm_cat, List.length_cons, List.length_nil, x_cmp_ge, x_cmp_le, x_cmp_gt, x_cmp_lt, x_cmp_eq, not_true_eq_false, not_false_eq_true, true_and, and_true, Int.add_zero, Int.zero_add, Int.cast_ofNat_Int, Int.sub_zero, e10, h74]; done) | fail) ?_; (conv => whnf)) | (refine sw_in (by first | omega | (simp (disch := omega) only [w32_id, w64_id, x_up_p, x_up_s, x_up_o, x_fill_p, x_fill_i, x_fill_o, x_cpy_p, x_cpy_i, x_cpy_o, x_upR_p, x_upR_s, x_upR_o, x_zM_p, x_zR_p, x_set_p, x_set_s, tb_CM, tb_SM, xm_cats, xm_cat, List.length_cons, List.length_nil, x_cmp_ge, x_cmp_le, x_cmp_gt, x_cmp_lt, x_cmp_eq, not_true_eq_false, not_false_eq_true, true_and, and_true, Int.add_zero, Int.zero_add, Int.cast_ofNat_Int, Int.sub_zero, e10, h74] <;> omega) | (simp (disch := omega) only [w32_id, w64_id, x_up_p, x_up_s, x_up_o, x_fill_p, x_fill_i, x_fill_o, x_cpy_p, x_cpy_i, x_cpy_o, x_upR_p, x_upR_s, x_upR_o, x_zM_p, x_zR_p, x_set_p, x_set_s, tb_CM, tb_SM, xm_cats, xm_cat, List.length_cons, List.length_nil, x_cmp_ge, x_cmp_le, x_cmp_gt, x_cmp_lt, x_cmp_eq, not_true_eq_false, not_false_eq_true, true_and, and_true, Int.add_zero, Int.zero_add, Int.cast_ofNat_Int, Int.sub_zero, e10, h74]; done) | fail) ?_; (conv => whnf)) | (refine sw_hit (by first | omega | (simp (disch := omega) only [w32_id, w64_id, x_up_p, x_up_s, x_up_o, x_fill_p, x_fill_i, x_fill_o, x_cpy_p, x_cpy_i, x_cpy_o, x_upR_p, x_upR_s, x_upR_o, x_zM_p, x_zR_p, x_set_p, x_set_s, tb_CM, tb_SM, xm_cats, xm_cat, List.length_cons, List.length_nil, x_cmp_ge, x_cmp_le, x_cmp_gt, x_cmp_lt, x_cmp_eq, not_true_eq_false, not_false_eq_true, true_and, and_true, Int.add_zero, Int.zero_add, Int.cast_ofNat_Int, Int.sub_zero, e10, h74] <;> omega) | (simp (disch := omega) only [w32_id, w64_id, x_up_p, x_up_s, x_up_o, x_fill_p, x_fill_i, x_fill_o, x_cpy_p, x_cpy_i, x_cpy_o, x_upR_p, x_upR_s, x_upR_o, x_zM_p, x_zR_p, x_set_p, x_set_s, tb_CM, tb_SM, xm_cats, xm_cat, List.length_cons, List.length_nil, x_cmp_ge, x_cmp_le, x_cmp_gt, x_cmp_lt, x_cmp_eq, not_true_eq_false, not_false_eq_true, true_and, and_true, Int.add_zero, Int.zero_add, Int.cast_ofNat_Int, Int.sub_zero, e10, h74]; done) | fail) ?_ (sw_vac (by first | omega | (simp (disch := omega) only [w32_id, w64_id, x_up_p, x_up_s, x_up_o, x_fill_p, x_fill_i, x_fill_o, x_cpy_p, x_cpy_i, x_cpy_o, x_upR_p, x_upR_s, x_upR_o, x_zM_p, x_zR_p, x_set_p, x_set_s, tb_CM, tb_SM, xm_cats, xm_cat, List.length_cons, List.length_nil, x_cmp_ge, x_cmp_le, x_cmp_gt, x_cmp_lt, x_cmp_eq, not_true_eq_false, not_false_eq_true, true_and, and_true, Int.add_zero, Int.zero_add, Int.cast_ofNat_Int, Int.sub_zero, e10, h74] <;> omega) | (simp (disch := omega) only [w32_id, w64_id, x_up_p, x_up_s, x_up_o, x_fill_p, x_fill_i, x_fill_o, x_cpy_p, x_cpy_i, x_cpy_o, x_upR_p, x_upR_s, x_upR_o, x_zM_p, x_zR_p, x_set_p, x_set_s, tb_CM, tb_SM, xm_cats, xm_cat, List.length_cons, List.length_nil, x_cmp_ge, x_cmp_le, x_cmp_gt, x_cmp_lt, x_cmp_eq, not_true_eq_false, not_false_eq_true, true_and, and_true, Int.add_zero, Int.zero_add, Int.cast_ofNat_Int, Int.sub_zero, e10, h74]; done) | fail)); (conv => whnf)) | (refine sw_next (by first | omega | (simp (disch := omega) only [w32_id, w64_id, x_up_p, x_up_s, x_up_o, x_fill_p, x_fill_i, x_fill_o, x_cpy_p, x_cpy_i, x_cpy_o, x_upR_p, x_upR_s, x_upR_o, x_zM_p, x_zR_p, x_set_p, x_set_s, tb_CM, tb_SM, xm_cats, xm_cat, List.length_cons, List.length_nil, x_cmp_ge, x_cmp_le, x_cmp_gt, x_cmp_lt, x_cmp_eq, not_true_eq_false, not_false_eq_true, true_and, and_true, Int.add_zero, Int.zero_add, Int.cast_ofNat_Int, Int.sub_zero, e10, h74] <;> omega) | (simp (disch := omega) only [w32_id, w64_id, x_up_p, x_up_s, x_up_o, x_fill_p, x_fill_i, x_fill_o, x_cpy_p, x_cpy_i, x_cpy_o, x_upR_p, x_upR_s, x_upR_o, x_zM_p, x_zR_p, x_set_p, x_set_s, tb_CM, tb_SM, xm_cats, xm_cat, List.length_cons, List.length_nil, x_cmp_ge, x_cmp_le, x_cmp_gt, x_cmp_lt, x_cmp_eq, not_true_eq_false, not_false_eq_true, true_and, and_true, Int.add_zero, Int.zero_add, Int.cast_ofNat_Int, Int.sub_zero, e10, h74]; done) | fail) ?_; (conv => whnf)) | (refine sw_def (by first | omega | (simp (disch := omega) only [w32_id, w64_id, x_up_p, x_up_s, x_up_o, x_fill_p, x_fill_i, x_fill_o, x_cpy_p, x_cpy_i, x_cpy_o, x_upR_p, x_upR_s, x_upR_o, x_zM_p, x_zR_p, x_set_p, x_set_s, tb_CM, tb_SM, xm_cats, xm_cat, List.length_cons, List.length_nil, x_cmp_ge, x_cmp_le, x_cmp_gt, x_cmp_lt, x_cmp_eq, not_true_eq_false, not_false_eq_true, true_and, and_true, Int.add_zero, Int.zero_add, Int.cast_ofNat_Int, Int.sub_zero, e10, h74] <;> omega) | (simp (disch := omega) only [w32_id, w64_id, x_up_p, x_up_s, x_up_o, x_fill_p, x_fill_i, x_fill_o, x_cpy_p, x_cpy_i, x_cpy_o, x_upR_p, x_upR_s, x_upR_o, x_zM_p, x_zR_p, x_set_p, x_set_s, tb_CM, tb_SM, xm_cats, xm_cat, List.length_cons, List.length_nil, x_cmp_ge, x_cmp_le, x_cmp_gt, x_cmp_lt, x_cmp_eq, not_true_eq_false, not_false_eq_true, true_and, and_true, Int.add_zero, Int.zero_add, Int.cast_ofNat_Int, Int.sub_zero, e10, h74]; done) | fail) ?_; (conv => whnf)) | (refine And.intro (by first | omega | (simp (disch := omega) only [w32_id, w64_id, x_up_p, x_up_s, x_up_o, x_fill_p, x_fill_i, x_fill_o, x_cpy_p, x_cpy_i, x_cpy_o, x_upR_p, x_upR_s, x_upR_o, x_zM_p, x_zR_p, x_set_p, x_set_s, tb_CM, tb_SM, xm_cats, xm_cat, List.length_cons, List.length_nil, x_cmp_ge, x_cmp_le, x_cmp_gt, x_cmp_lt, x_cmp_eq, not_true_eq_false, not_false_eq_true, true_and, and_true, Int.add_zero, Int.zero_add, Int.cast_ofNat_Int, Int.sub_zero, e10, h74] <;> omega) | (simp (disch := omega) only [w32_id, w64_id, x_up_p, x_up_s, x_up_o, x_fill_p, x_fill_i, x_fill_o, x_cpy_p, x_cpy_i, x_cpy_o, x_upR_p, x_upR_s, x_upR_o, x_zM_p, x_zR_p, x_set_p, x_set_s, tb_CM, tb_SM, xm_cats, xm_cat, List.length_cons, List.length_nil, x_cmp_ge, x_cmp_le, x_cmp_gt, x_cmp_lt, x_cmp_eq, not_true_eq_false, not_false_eq_true, true_and, and_true, Int.add_zero, Int.zero_add, Int.cast_ofNat_Int, Int.sub_zero, e10, h74]; done) | fail) ?_; (conv => whnf)))
    refine hC _ _ _ _ _ (y_62 (d := d + 8) (M := M1) (ρ := ρ) (e := e) (R := R) (sl := sl) (f := f) (s := s) hE (by omega) h74 (vF_T hT' hvF) hq h103 (fun y hy M2 m1 m2 => ?_) (fun c a hy hcn M2 m1 m2 m3 m4 => ?_))
    · rw [k_hd_T hT'] at hy
      rw [hy] at sp
      have sp : k_c2 M fs N f (n + 1) s = match k_ck M fs f (N f) (some y.2.2) (M 95 f) y.1 y.2.1 with
        | .inl z => .inl (z.1, z.2, f)
        | .inr x => k_c2 M fs N (f + 1) n x.1 := sp
      have hB : rB M M2 f y.1 y.2.1 0 := rB_T m1 hT (fun j hj => by rcases hj with rfl | rfl | rfl; exact hc.2 10 (by unfold cJ; omega); exact h766.1; exact h766.2)
      have m79 : M2 81 79 = (y.1.length : Int) := m1.2.2.1.2.2.2
      have e95 : M2 95 f = M 95 f := by rw [hB.1 95 (by decide) (by decide) (by decide)]
      have e94 : M2 94 f = M 94 f := by rw [hB.1 94 (by decide) (by decide) (by decide)]
      have gc := fCh_tr hc (fCh_g m2)
      (conv => whnf)
      repeat (first | (refine br_t (by first | omega | (simp (disch := omega) only [w32_id, w64_id, x_up_p, x_up_s, x_up_o, x_fill_p, x_fill_i, x_fill_o, x_cpy_p, x_cpy_i, x_cpy_o, x_upR_p, x_upR_s, x_upR_o, x_zM_p, x_zR_p, x_set_p, x_set_s, tb_CM, tb_SM, xm_cats, xm_cat, List.length_cons, List.length_nil, x_cmp_ge, x_cmp_le, x_cmp_gt, x_cmp_lt, x_cmp_eq, not_true_eq_false, not_false_eq_true, true_and, and_true, Int.add_zero, Int.zero_add, Int.cast_ofNat_Int, Int.sub_zero, m79, e95, e94] <;> omega) | (simp (disch := omega) only [w32_id, w64_id, x_up_p, x_up_s, x_up_o, x_fill_p, x_fill_i, x_fill_o, x_cpy_p, x_cpy_i, x_cpy_o, x_upR_p, x_upR_s, x_upR_o, x_zM_p, x_zR_p, x_set_p, x_set_s, tb_CM, tb_SM, xm_cats, xm_cat, List.length_cons, List.length_nil, x_cmp_ge, x_cmp_le, x_cmp_gt, x_cmp_lt, x_cmp_eq, not_true_eq_false, not_false_eq_true, true_and, and_true, Int.add_zero, Int.zero_add, Int.cast_ofNat_Int, Int.sub_zero, m79, e95, e94]; done) | fail) ?_; (conv => whnf)) | (refine br_f (by first | omega | (simp (disch := omega) only [w32_id, w64_id, x_up_p, x_up_s, x_up_o, x_fill_p, x_fill_i, x_fill_o, x_cpy_p, x_cpy_i, x_cpy_o, x_upR_p, x_upR_s, x_upR_o, x_zM_p, x_zR_p, x_set_p, x_set_s, tb_CM, tb_SM, xm_cats, xm_cat, List.length_cons, List.length_nil, x_cmp_ge, x_cmp_le, x_cmp_gt, x_cmp_lt, x_cmp_eq, not_true_eq_false, not_false_eq_true, true_and, and_true, Int.add_zero, Int.zero_add, Int.cast_ofNat_Int, Int.sub_zero, m79, e95, e94] <;> omega) | (simp (disch := omega) only [w32_id, w64_id, x_up_p, x_up_s, x_up_o, x_fill_p, x_fill_i, x_fill_o, x_cpy_p, x_cpy_i, x_cpy_o, x_upR_p, x_upR_s, x_upR_o, x_zM_p, x_zR_p, x_set_p, x_set_s, tb_CM, tb_SM, xm_cats, xm_cat, List.length_cons, List.length_nil, x_cmp_ge, x_cmp_le, x_cmp_gt, x_cmp_lt, x_cmp_eq, not_true_eq_false, not_false_eq_true, true_and, and_true, Int.add_zero, Int.zero_add, Int.cast_ofNat_Int, Int.sub_zero, m79, e95, e94]; done) | fail) ?_; (conv => whnf)) | (refine sw_in (by first | omega | (simp (disch := omega) only [w32_id, w64_id, x_up_p, x_up_s, x_up_o, x_fill_p, x_fill_i, x_fill_o, x_cpy_p, x_cpy_i, x_cpy_o, x_upR_p, x_upR_s, x_upR_o, x_zM_p, x_zR_p, x_set_p, x_set_s, tb_CM, tb_SM, xm_cats, xm_cat, List.length_cons, List.length_nil, x_cmp_ge, x_cmp_le, x_cmp_gt, x_cmp_lt, x_cmp_eq, not_true_eq_false, not_false_eq_true, true_and, and_true, Int.add_zero, Int.zero_add, Int.cast_ofNat_Int, Int.sub_zero, m79, e95, e94] <;> omega) | (simp (disch := omega) only [w32_id, w64_id, x_up_p, x_up_s, x_up_o, x_fill_p, x_fill_i, x_fill_o, x_cpy_p, x_cpy_i, x_cpy_o, x_upR_p, x_upR_s, x_upR_o, x_zM_p, x_zR_p, x_set_p, x_set_s, tb_CM, tb_SM, xm_cats, xm_cat, List.length_cons, List.length_nil, x_cmp_ge, x_cmp_le, x_cmp_gt, x_cmp_lt, x_cmp_eq, not_true_eq_false, not_false_eq_true, true_and, and_true, Int.add_zero, Int.zero_add, Int.cast_ofNat_Int, Int.sub_zero, m79, e95, e94]; done) | fail) ?_; (conv => whnf)) | (refine sw_hit (by first | omega | (simp (disch := omega) only [w32_id, w64_id, x_up_p, x_up_s, x_up_o, x_fill_p, x_fill_i, x_fill_o, x_cpy_p, x_cpy_i, x_cpy_o, x_upR_p, x_upR_s, x_upR_o, x_zM_p, x_zR_p, x_set_p, x_set_s, tb_CM, tb_SM, xm_cats, xm_cat, List.length_cons, List.length_nil, x_cmp_ge, x_cmp_le, x_cmp_gt, x_cmp_lt, x_cmp_eq, not_true_eq_false, not_false_eq_true, true_and, and_true, Int.add_zero, Int.zero_add, Int.cast_ofNat_Int, Int.sub_zero, m79, e95, e94] <;> omega) | (simp (disch := omega) only [w32_id, w64_id, x_up_p, x_up_s, x_up_o, x_fill_p, x_fill_i, x_fill_o, x_cpy_p, x_cpy_i, x_cpy_o, x_upR_p, x_upR_s, x_upR_o, x_zM_p, x_zR_p, x_set_p, x_set_s, tb_CM, tb_SM, xm_cats, xm_cat, List.length_cons, List.length_nil, x_cmp_ge, x_cmp_le, x_cmp_gt, x_cmp_lt, x_cmp_eq, not_true_eq_false, not_false_eq_true, true_and, and_true, Int.add_zero, Int.zero_add, Int.cast_ofNat_Int, Int.sub_zero, m79, e95, e94]; done) | fail) ?_ (sw_vac (by first | omega | (simp (disch := omega) only [w32_id, w64_id, x_up_p, x_up_s, x_up_o, x_fill_p, x_fill_i, x_fill_o, x_cpy_p, x_cpy_i, x_cpy_o, x_upR_p, x_upR_s, x_upR_o, x_zM_p, x_zR_p, x_set_p, x_set_s, tb_CM, tb_SM, xm_cats, xm_cat, List.length_cons, List.length_nil, x_cmp_ge, x_cmp_le, x_cmp_gt, x_cmp_lt, x_cmp_eq, not_true_eq_false, not_false_eq_true, true_and, and_true, Int.add_zero, Int.zero_add, Int.cast_ofNat_Int, Int.sub_zero, m79, e95, e94] <;> omega) | (simp (disch := omega) only [w32_id, w64_id, x_up_p, x_up_s, x_up_o, x_fill_p, x_fill_i, x_fill_o, x_cpy_p, x_cpy_i, x_cpy_o, x_upR_p, x_upR_s, x_upR_o, x_zM_p, x_zR_p, x_set_p, x_set_s, tb_CM, tb_SM, xm_cats, xm_cat, List.length_cons, List.length_nil, x_cmp_ge, x_cmp_le, x_cmp_gt, x_cmp_lt, x_cmp_eq, not_true_eq_false, not_false_eq_true, true_and, and_true, Int.add_zero, Int.zero_add, Int.cast_ofNat_Int, Int.sub_zero, m79, e95, e94]; done) | fail)); (conv => whnf)) | (refine sw_next (by first | omega | (simp (disch := omega) only [w32_id, w64_id, x_up_p, x_up_s, x_up_o, x_fill_p, x_fill_i, x_fill_o, x_cpy_p, x_cpy_i, x_cpy_o, x_upR_p, x_upR_s, x_upR_o, x_zM_p, x_zR_p, x_set_p, x_set_s, tb_CM, tb_SM, xm_cats, xm_cat, List.length_cons, List.length_nil, x_cmp_ge, x_cmp_le, x_cmp_gt, x_cmp_lt, x_cmp_eq, not_true_eq_false, not_false_eq_true, true_and, and_true, Int.add_zero, Int.zero_add, Int.cast_ofNat_Int, Int.sub_zero, m79, e95, e94] <;> omega) | (simp (disch := omega) only [w32_id, w64_id, x_up_p, x_up_s, x_up_o, x_fill_p, x_fill_i, x_fill_o, x_cpy_p, x_cpy_i, x_cpy_o, x_upR_p, x_upR_s, x_upR_o, x_zM_p, x_zR_p, x_set_p, x_set_s, tb_CM, tb_SM, xm_cats, xm_cat, List.length_cons, List.length_nil, x_cmp_ge, x_cmp_le, x_cmp_gt, x_cmp_lt, x_cmp_eq, not_true_eq_false, not_false_eq_true, true_and, and_true, Int.add_zero, Int.zero_add, Int.cast_ofNat_Int, Int.sub_zero, m79, e95, e94]; done) | fail) ?_; (conv => whnf)) | (refine sw_def (by first | omega | (simp (disch := omega) only [w32_id, w64_id, x_up_p, x_up_s, x_up_o, x_fill_p, x_fill_i, x_fill_o, x_cpy_p, x_cpy_i, x_cpy_o, x_upR_p, x_upR_s, x_upR_o, x_zM_p, x_zR_p, x_set_p, x_set_s, tb_CM, tb_SM, xm_cats, xm_cat, List.length_cons, List.length_nil, x_cmp_ge, x_cmp_le, x_cmp_gt, x_cmp_lt, x_cmp_eq, not_true_eq_false, not_false_eq_true, true_and, and_true, Int.add_zero, Int.zero_add, Int.cast_ofNat_Int, Int.sub_zero, m79, e95, e94] <;> omega) | (simp (disch := omega) only [w32_id, w64_id, x_up_p, x_up_s, x_up_o, x_fill_p, x_fill_i, x_fill_o, x_cpy_p, x_cpy_i, x_cpy_o, x_upR_p, x_upR_s, x_upR_o, x_zM_p, x_zR_p, x_set_p, x_set_s, tb_CM, tb_SM, xm_cats, xm_cat, List.length_cons, List.length_nil, x_cmp_ge, x_cmp_le, x_cmp_gt, x_cmp_lt, x_cmp_eq, not_true_eq_false, not_false_eq_true, true_and, and_true, Int.add_zero, Int.zero_add, Int.cast_ofNat_Int, Int.sub_zero, m79, e95, e94]; done) | fail) ?_; (conv => whnf)) | (refine And.intro (by first | omega | (simp (disch := omega) only [w32_id, w64_id, x_up_p, x_up_s, x_up_o, x_fill_p, x_fill_i, x_fill_o, x_cpy_p, x_cpy_i, x_cpy_o, x_upR_p, x_upR_s, x_upR_o, x_zM_p, x_zR_p, x_set_p, x_set_s, tb_CM, tb_SM, xm_cats, xm_cat, List.length_cons, List.length_nil, x_cmp_ge, x_cmp_le, x_cmp_gt, x_cmp_lt, x_cmp_eq, not_true_eq_false, not_false_eq_true, true_and, and_true, Int.add_zero, Int.zero_add, Int.cast_ofNat_Int, Int.sub_zero, m79, e95, e94] <;> omega) | (simp (disch := omega) only [w32_id, w64_id, x_up_p, x_up_s, x_up_o, x_fill_p, x_fill_i, x_fill_o, x_cpy_p, x_cpy_i, x_cpy_o, x_upR_p, x_upR_s, x_upR_o, x_zM_p, x_zR_p, x_set_p, x_set_s, tb_CM, tb_SM, xm_cats, xm_cat, List.length_cons, List.length_nil, x_cmp_ge, x_cmp_le, x_cmp_gt, x_cmp_lt, x_cmp_eq, not_true_eq_false, not_false_eq_true, true_and, and_true, Int.add_zero, Int.zero_add, Int.cast_ofNat_Int, Int.sub_zero, m79, e95, e94]; done) | fail) ?_; (conv => whnf)))
      refine hC _ _ _ _ _ (xm_castc (y_85 (d := d + 1) (M0 := M) (f := f) (M := x_up M2 81 112 (y.1.length : Int)) (ρ := ρ) (e := e) (R := R) (sl := sl) (L := L) (n := N f) (r := M 95 f) (t := t) (wv := wv) (ty := M 94 f) (ln := (y.1.length : Int)) (E := y.1) (s := y.2.1) (th := y.2.2) hE hG hvF.1 h9 hfs hL hvn ht hwv ⟨rfl, hvF.2.2.2.2.2.2, by omega, [], y.1, rfl, rfl, k_hd_t hy⟩ (rB_112 hB) (x_up_s rfl) (fun x hx M3 n1 n2 n3 => ?_) (fun c a hx M3 n1 => ?_)) (by first | rfl | simp (disch := omega) only [w32_id, w64_id, x_up_p, x_up_s, x_up_o, x_fill_p, x_fill_i, x_fill_o, x_cpy_p, x_cpy_i, x_cpy_o, x_upR_p, x_upR_s, x_upR_o, x_zM_p, x_zR_p, x_set_p, x_set_s, tb_CM, tb_SM, xm_cats, xm_cat, List.length_cons, List.length_nil, x_cmp_ge, x_cmp_le, x_cmp_gt, x_cmp_lt, x_cmp_eq, not_true_eq_false, not_false_eq_true, true_and, and_true, Int.add_zero, Int.zero_add, Int.cast_ofNat_Int, Int.sub_zero, e95, e94]) (by first | rfl | simp (disch := omega) only [w32_id, w64_id, x_up_p, x_up_s, x_up_o, x_fill_p, x_fill_i, x_fill_o, x_cpy_p, x_cpy_i, x_cpy_o, x_upR_p, x_upR_s, x_upR_o, x_zM_p, x_zR_p, x_set_p, x_set_s, tb_CM, tb_SM, xm_cats, xm_cat, List.length_cons, List.length_nil, x_cmp_ge, x_cmp_le, x_cmp_gt, x_cmp_lt, x_cmp_eq, not_true_eq_false, not_false_eq_true, true_and, and_true, Int.add_zero, Int.zero_add, Int.cast_ofNat_Int, Int.sub_zero, m79]))
      · rw [hx] at sp
        have go := ih (f + 1) x.1 M3 (by omega) (by omega) (fCh_tr gc (fCh_tr (fCh_up (by unfold cJ; omega)) (fCh_c n3))) (qG_S n1.2.2.2.2.1.1) n1.2.2.2.2.2.1 n1.2.1.1 n1.2.2.2.2.2.2.2.2.2 (fun s' hs' => hK s' (sp.trans hs')) (fun c a g hs' => hX c a g (sp.trans hs'))
        (conv => whnf)
        refine hF _ _ _ _ _ _ _ ?_
        try simp (disch := omega) only [w32_id, w64_id, x_up_p, x_up_s, x_up_o, x_fill_p, x_fill_i, x_fill_o, x_cpy_p, x_cpy_i, x_cpy_o, x_upR_p, x_upR_s, x_upR_o, x_zM_p, x_zR_p, x_set_p, x_set_s, tb_CM, tb_SM, xm_cats, xm_cat, List.length_cons, List.length_nil, x_cmp_ge, x_cmp_le, x_cmp_gt, x_cmp_lt, x_cmp_eq, not_true_eq_false, not_false_eq_true, true_and, and_true, Int.add_zero, Int.zero_add, Int.cast_ofNat_Int, Int.sub_zero]
        exact go
      · rw [hx] at sp
        have hcn : c < 0 := k_ck_neg L (N f) (some y.2.2) (M 95 f) t wv y.1 y.2.1 (by show 2 * (L : Int) ≤ N f + 0; omega) hvn hx
        have g2 := fCh_tr gc (fCh_tr (fCh_up (j := 112) (z := (y.1.length : Int)) (by unfold cJ; omega)) (fCh_c n1.2))
        have go := l_61x (d := d) (M0 := M) (M := M3) (ρ := ρ) (e := e) (R := R) (sl := sl) (i := f + 1) hE hcn n1.1.1 n1.1.2.1 (by rw [n1.1.2.2, x_up_o (by decide)]; exact m1.2.1.2) g2 (by rw [g2.2 10 (by unfold cJ; omega)]; exact hfs) (by omega) (fun M' hx => hX c a f sp M' hx)
        (conv => whnf)
        refine hF _ _ _ _ _ _ _ ?_
        try simp (disch := omega) only [w32_id, w64_id, x_up_p, x_up_s, x_up_o, x_fill_p, x_fill_i, x_fill_o, x_cpy_p, x_cpy_i, x_cpy_o, x_upR_p, x_upR_s, x_upR_o, x_zM_p, x_zR_p, x_set_p, x_set_s, tb_CM, tb_SM, xm_cats, xm_cat, List.length_cons, List.length_nil, x_cmp_ge, x_cmp_le, x_cmp_gt, x_cmp_lt, x_cmp_eq, not_true_eq_false, not_false_eq_true, true_and, and_true, Int.add_zero, Int.zero_add, Int.cast_ofNat_Int, Int.sub_zero]
        exact go
    · rw [k_hd_T hT'] at hy
      exfalso
      obtain ⟨y, h2⟩ := hh
      rw [h2] at hy
      cases hy
end

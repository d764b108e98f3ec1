/-! WHAT CHECK'S SUCCESS SAYS: lets are not too deep, parameters, which nodes are free -/
theorem k_nm_inv {pl : Int} {x : k_o k_v} {y : k_v} (h : k_nm pl x = .inr y) : x = .inr y ∧ y.2.1 ≠ 1 := by
  obtain ⟨a, h1, h2⟩ := k_b_inv h
  by_cases q : a.2.1 = 1
  · rw [if_pos q] at h2; cases h2
  · rw [if_neg q] at h2; cases h2; exact ⟨h1, q⟩
/-- what was free or not stays so -/
def frl (s s' : k_s) : Prop := ∀ r, (s.2.2.2 r = 0 ∨ s.2.2.2 r = 1) → (s'.2.2.2 r = 0 ∨ s'.2.2.2 r = 1)
theorem frR : kR frl := by
  refine ⟨fun _ _ h => h, fun _ _ _ a b r h => b r (a r h), fun pl s y h => ?_, fun pl h s s' e => ?_, fun f pl so h s s' e => ?_, fun f pl h h' s s1 s2 r fr e1 e2 e3 => ?_, fun _ _ _ _ h => h⟩
  · unfold k_nv at h
    split at h
    · cases h
    · cases h; exact fun _ h => h
  · unfold k_af at e
    split at e
    · cases e
    · cases e; exact fun _ h => h
  · unfold k_ag at e
    split at e
    · cases e
    · cases e; exact fun _ h => h
  · unfold k_ag at e1 e2
    split at e1
    · cases e1
    · cases e1
      split at e2
      · cases e2
      · cases e2
        intro r' q
        show t_u s.2.2.2 r fr r' = 0 ∨ t_u s.2.2.2 r fr r' = 1
        by_cases hr : r' = r
        · rw [t_u_s hr]; exact e3
        · rw [t_u_o hr]; exact q
theorem frl_tr {a b c : k_s} (h1 : frl a b) (h2 : frl b c) : frl a c := frR.2.1 _ _ _ h1 h2
theorem vd_mo {M : Nat → Int → Int} {fr fr' : Int → Int} (h : ∀ r, (fr r = 0 ∨ fr r = 1) → (fr' r = 0 ∨ fr' r = 1)) : ∀ {L : Nat} {r : Int} {n : Nat}, vd M fr L r n → vd M fr' L r n
  | 0, _, _, q => q
  | L + 1, r, n, ⟨q2, q3, q4, q6, q8, q13, q14⟩ => ⟨fun z => ⟨h _ (q2 z).1, vd_mo h (q2 z).2⟩, fun z => ⟨h _ (q3 z).1, vd_mo h (q3 z).2.1, vd_mo h (q3 z).2.2⟩, fun z i i0 i1 => vd_mo h (q4 z i i0 i1), fun z => vd_mo h (q6 z), fun z => ⟨vd_mo h (q8 z).1, vd_mo h (q8 z).2⟩, fun z => ⟨(q13 z).1, vd_mo h (q13 z).2.1, vd_mo h (q13 z).2.2⟩, fun z => ⟨vd_mo h (q14 z).1, vd_mo h (q14 z).2.1, vd_mo h (q14 z).2.2.1, vd_mo h (q14 z).2.2.2⟩⟩
theorem k_ac_fr {f pl r : Int} {g h : Int → Int} {w : Option (Int → Int)} {s : k_s} {y : k_v} (q : k_ac f pl r g h w s = .inr y) : y.1.2.2.2 r = 0 ∨ y.1.2.2.2 r = 1 := by
  unfold k_ac at q
  obtain ⟨s1, h1, q⟩ := k_b_inv q
  obtain ⟨s2, h2, q⟩ := k_b_inv q
  have e : ∀ b : Int, b = (if s2.2.2.1 (s.1 2) 3 = 1 ∧ s2.2.2.1 (s1.1 2) 3 = 1 then 1 else 0) → t_u s2.2.2.2 r b r = 0 ∨ t_u s2.2.2.2 r b r = 1 := fun b hb => by
    rw [t_u_s rfl, hb]
    split
    · exact .inr rfl
    · exact .inl rfl
  cases w with
  | some x => cases q; exact e _ rfl
  | none =>
    obtain ⟨z, h3, q⟩ := k_b_inv q
    cases q
    exact frR.2.2.1 _ _ _ h3 r (e _ rfl)
theorem k_ca_inv {M : Nat → Int → Int} {W : Int → k_s → k_o k_v} (hW : ∀ a s y, W a s = .inr y → frl s y.1) : ∀ {n : Nat} {a b : Int} {s : k_s} {q : k_s × List (Int × (Int → Int))}, k_ca M W a b n s = .inr q → ∀ i : Int, 0 ≤ i → i < n → ∃ s y, W (M 118 (a + i)) s = .inr y ∧ frl y.1 q.1
  | 0, _, _, _, _, _, i, i0, i1 => by omega
  | n + 1, a, b, s, q, h, i, i0, i1 => by
    obtain ⟨y, h1, h2⟩ := k_b_inv h
    by_cases c : (y.2.1 = 1) ↔ (M 113 (M 92 b) = 3)
    · rw [if_pos c] at h2
      obtain ⟨q2, h3, h4⟩ := k_b_inv h2
      cases h4
      by_cases hi : i = 0
      · subst hi; rw [Int.add_zero]; exact ⟨s, y, h1, (kR_ca frR hW h3 : frl y.1 q2.1)⟩
      · obtain ⟨s', y', h5, h6⟩ := k_ca_inv hW h3 (i - 1) (by omega) (by omega)
        exact ⟨s', y', by rw [show a + i = a + 1 + (i - 1) by omega]; exact h5, h6⟩
    · rw [if_neg c] at h2; cases h2
theorem k_ck_vd {M : Nat → Int → Int} {fs f : Int} (h88 : 0 ≤ M 88 f) : ∀ (n : Nat) (w : Option k_h) (r : Int) (E : k_E) (s : k_s) (y : k_v), k_ck M fs f n w r E s = .inr y → ∀ (L : Nat) (t wv : Int) (m : Nat), vn M L r t wv → (E.length : Int) - M 88 f = m → m ≤ 10 → vd M y.1.2.2.2 L r m := by
  intro n
  induction n with
  | zero => intro w r E s y h; cases h
  | succ n ih =>
    intro w r E s y h L t wv m hv hm hm10
    cases L with
    | zero => exact hv.elim
    | succ L =>
      obtain ⟨hr, htw, hc⟩ := hv
      by_cases k12 : M 96 r = 12
      · rw [k_ck_12 k12] at h
        obtain ⟨a, h1, h2⟩ := k_b_inv h
        have hv : vn M L (M 97 r) (t - 1) wv ∧ vn M L (M 98 r) (t - 1) (wv - 1) := by
          rcases hc with c | c | c | c | c | c | c | c | c | c | c | c <;> first | exact c.2 | (exfalso; omega)
        exact ⟨fun q => by omega, fun q => by omega, fun q => by omega, fun q => by omega, fun _ => ⟨vd_mo (kR_ck frR h2) (ih _ _ _ _ _ h1 L _ _ m hv.1 hm hm10), ih _ _ _ _ _ h2 L _ _ m hv.2 hm hm10⟩, fun q => by omega, fun q => by omega⟩
      · by_cases k13 : M 96 r = 13
        · rw [k_ck_13 k13] at h
          obtain ⟨a, h1, h2⟩ := k_b_inv h
          have hv : vn M L (M 98 r) (t - 1) wv ∧ vn M L (M 99 r) (t - 1) wv := by
            rcases hc with c | c | c | c | c | c | c | c | c | c | c | c <;> first | exact c.2.2 | (exfalso; omega)
          by_cases q : (E.length : Int) - M 88 f = 10
          · rw [if_pos q] at h2; cases h2
          · rw [if_neg q] at h2
            exact ⟨fun q => by omega, fun q => by omega, fun q => by omega, fun q => by omega, fun q => by omega, fun _ => ⟨by omega, vd_mo (kR_ck frR h2) (ih _ _ _ _ _ h1 L _ _ m hv.1 hm hm10), ih _ _ _ _ _ h2 L _ _ (m + 1) hv.2 (by rw [List.length_cons]; omega) (by omega)⟩, fun q => by omega⟩
        · by_cases k14 : M 96 r = 14
          · rw [k_ck_if k14] at h
            obtain ⟨a, h1, h2⟩ := k_b_inv h
            obtain ⟨b, h3, h4⟩ := k_b_inv h2
            unfold k_i3 at h4
            obtain ⟨s1, h5, h6⟩ := k_b_inv h4
            obtain ⟨y1, h7, h8⟩ := k_b_inv h6
            unfold k_i4 at h8
            obtain ⟨s2, h9, h10⟩ := k_b_inv h8
            obtain ⟨x, h11, h12⟩ := k_b_inv h10
            have f12 : frl x.1 y.1 := by
              cases w with
              | some _ => cases h12; exact frR.2.2.2.2.2.2 _ _ _
              | none => exact frl_tr (frR.2.2.2.2.2.2 _ _ _) (kR_jn frR h12)
            have f11 := frl_tr (kR_ck frR h11) f12
            have f9 := frl_tr (frR.2.2.2.2.2.2 (b.1.1 0) (b.1.1 1) y1.1) (frl_tr (kR_no frR h9) f11)
            have f7 := frl_tr (kR_afs frR h5) (frl_tr (kR_ck frR h7) f9)
            have f3 := frl_tr (kR_ck frR (k_nm_inv h3).1) f7
            have hv : vn M L (M 98 r) (t - 1) wv ∧ vn M L (M 99 r) (t - 1) (wv - 1) ∧ vn M L (M 100 r) (t - 1) (wv - 2) ∧ vn M L (M 101 r) (t - 1) (wv - 3) := by
              rcases hc with c | c | c | c | c | c | c | c | c | c | c | c <;> first | exact c.2.2 | (exfalso; omega)
            exact ⟨fun q => by omega, fun q => by omega, fun q => by omega, fun q => by omega, fun q => by omega, fun q => by omega, fun _ => ⟨vd_mo f3 (ih _ _ _ _ _ (k_nm_inv h1).1 L _ _ m hv.1 hm hm10), vd_mo f7 (ih _ _ _ _ _ (k_nm_inv h3).1 L _ _ m hv.2.1 hm hm10), vd_mo f9 (ih _ _ _ _ _ h7 L _ _ m hv.2.2.1 hm hm10), vd_mo f12 (ih _ _ _ _ _ h11 L _ _ m hv.2.2.2 hm hm10)⟩⟩
          · by_cases k15 : M 96 r = 15
            · rw [k_ck_15 k15] at h
              have hv : vn M L (M 97 r) (t - 1) wv := by
                rcases hc with c | c | c | c | c | c | c | c | c | c | c | c <;> first | exact c.2 | (exfalso; omega)
              exact ⟨fun q => by omega, fun q => by omega, fun q => by omega, fun _ => ih _ _ _ _ _ h L _ _ m hv hm hm10, fun q => by omega, fun q => by omega, fun q => by omega⟩
            · have hp : k_pk (M 96 r) := ⟨k12, k13, k14, k15⟩
              cases w with
              | some tt =>
                rw [k_ck_s hp] at h
                obtain ⟨a, h1, h2⟩ := k_b_inv h
                have f2 : frl a.1 y.1 := by
                  split at h2
                  · obtain ⟨s1, h3, h4⟩ := k_b_inv h2
                    cases h4
                    exact kR_ags frR h3
                  · cases h2
                exact vd_mo f2 (ih _ _ _ _ _ h1 (L + 1) t wv m ⟨hr, htw, hc⟩ hm hm10)
              | none =>
                rcases hc with c | c | c | c | c | c | c | c | c | c | c | c
                · exact ⟨fun q => by omega, fun q => by omega, fun q => by omega, fun q => by omega, fun q => by omega, fun q => by omega, fun q => by omega⟩
                · exact ⟨fun q => by omega, fun q => by omega, fun q => by omega, fun q => by omega, fun q => by omega, fun q => by omega, fun q => by omega⟩
                · exact ⟨fun q => by omega, fun q => by omega, fun q => by omega, fun q => by omega, fun q => by omega, fun q => by omega, fun q => by omega⟩
                · rw [k_ck_n2 (.inl c.1)] at h
                  split at h
                  · cases h
                  · split at h
                    · obtain ⟨a, h1, h2⟩ := k_b_inv h
                      rw [if_pos c.1] at h2
                      exact ⟨fun _ => ⟨k_ac_fr h2, vd_mo (kR_ac frR h2) (ih _ _ _ _ _ (k_nm_inv h1).1 L _ _ m c.2 hm hm10)⟩, fun q => by omega, fun q => by omega, fun q => by omega, fun q => by omega, fun q => by omega, fun q => by omega⟩
                    · cases h
                · rw [k_ck_n2 (.inr c.1)] at h
                  split at h
                  · cases h
                  · split at h
                    · obtain ⟨a, h1, h2⟩ := k_b_inv h
                      rw [if_neg (by omega)] at h2
                      obtain ⟨b, h3, h4⟩ := k_b_inv h2
                      exact ⟨fun q => by omega, fun _ => ⟨k_ac_fr h4, vd_mo (frl_tr (kR_ck frR (k_nm_inv h3).1) (kR_ac frR h4)) (ih _ _ _ _ _ (k_nm_inv h1).1 L _ _ m c.2.1 hm hm10), vd_mo (kR_ac frR h4) (ih _ _ _ _ _ (k_nm_inv h3).1 L _ _ m c.2.2 hm hm10)⟩, fun q => by omega, fun q => by omega, fun q => by omega, fun q => by omega, fun q => by omega⟩
                    · cases h
                · rw [k_ck_n4 c.1] at h
                  split at h
                  · cases h
                  · split at h
                    · cases h
                    · obtain ⟨is, h1, h2⟩ := k_b_inv h
                      obtain ⟨q', h3, h4⟩ := k_b_inv h2
                      refine ⟨fun q => by omega, fun q => by omega, fun _ i i0 i1 => ?_, fun q => by omega, fun q => by omega, fun q => by omega, fun q => by omega⟩
                      obtain ⟨s', y', h5, h6⟩ := k_ca_inv (fun a s y h => kR_ck frR h) h3 i i0 (by omega)
                      exact vd_mo (frl_tr h6 (kR_cl frR h4)) (ih _ _ _ _ _ h5 L _ _ m (c.2.2.2.2.2.2 i i0 i1) hm hm10)
                · obtain ⟨c1 | c1 | c1, cv⟩ := c
                  · rw [k_ck_n6 c1] at h
                    obtain ⟨a, h1, h2⟩ := k_b_inv h
                    obtain ⟨s1, h3, h4⟩ := k_b_inv h2
                    cases h4
                    exact ⟨fun q => by omega, fun q => by omega, fun q => by omega, fun _ => vd_mo (frR.2.2.2.1 _ _ _ _ h3) (ih _ _ _ _ _ (k_nm_inv h1).1 L _ _ m cv hm hm10), fun q => by omega, fun q => by omega, fun q => by omega⟩
                  · rw [k_ck_n7 c1] at h
                    exact ⟨fun q => by omega, fun q => by omega, fun q => by omega, fun _ => ih _ _ _ _ _ (k_nm_inv h).1 L _ _ m cv hm hm10, fun q => by omega, fun q => by omega, fun q => by omega⟩
                  · exact absurd c1 k15
                · obtain ⟨c1, cv1, cv2⟩ := c
                  have c1' : M 96 r = 8 ∨ M 96 r = 9 ∨ M 96 r = 10 := by omega
                  rw [k_ck_ne hp (by omega)] at h
                  obtain ⟨a, h1, h2⟩ := k_b_inv h
                  rw [if_neg (by omega)] at h2
                  obtain ⟨b, h3, h4⟩ := k_b_inv h2
                  exact ⟨fun q => by omega, fun q => by omega, fun q => by omega, fun q => by omega, fun _ => ⟨vd_mo (frl_tr (kR_ck frR (k_nm_inv h3).1) (kR_tw frR h4)) (ih _ _ _ _ _ (k_nm_inv h1).1 L _ _ m cv1 hm hm10), vd_mo (kR_tw frR h4) (ih _ _ _ _ _ (k_nm_inv h3).1 L _ _ m cv2 hm hm10)⟩, fun q => by omega, fun q => by omega⟩
                · rw [k_ck_ne hp (by omega)] at h
                  obtain ⟨a, h1, h2⟩ := k_b_inv h
                  rw [if_pos c.1] at h2
                  exact ⟨fun q => by omega, fun q => by omega, fun q => by omega, fun _ => vd_mo (kR_dv frR h2) (ih _ _ _ _ _ (k_nm_inv h1).1 L _ _ m c.2.2 hm hm10), fun q => by omega, fun q => by omega, fun q => by omega⟩
                · exact absurd c.1 k13
                · exact absurd c.1 k14
                · rw [k_ck_n16 c.1] at h
                  obtain ⟨tt, h1, h2⟩ := k_b_inv h
                  obtain ⟨a, h3, h4⟩ := k_b_inv h2
                  exact ⟨fun q => by omega, fun q => by omega, fun q => by omega, fun _ => vd_mo (kR_gv frR h4) (ih _ _ _ _ _ h3 L _ _ m c.2.2 hm hm10), fun q => by omega, fun q => by omega, fun q => by omega⟩
-- parameters
theorem eL_0 {ic : Int} : ∀ {E : k_E}, (E.length : Int) ≤ ic → eL ic E = []
  | [], _ => rfl
  | x :: l, h => by
    rw [List.length_cons] at h
    unfold eL
    rw [if_neg (by omega)]
theorem k_hn_ln {M : Nat → Int → Int} : ∀ {n : Nat} {b v : Int} {E : k_E}, (k_hn M b v n E).length = E.length + n
  | 0, _, _, _ => rfl
  | n + 1, b, v, E => by
    show (k_hn M (b + 1) (v + 1) n _).length = _
    rw [k_hn_ln, List.length_cons]
    omega
theorem k_hp_eL {M : Nat → Int → Int} {ic f : Int} : ∀ {n : Nat} {i : Nat} {E : k_E} {s : k_s} {y : k_E × k_s}, ic ≤ E.length → eL ic E = k_pw M f i → k_hp M (5 * f + i) n E s = .inr y → eL ic y.1 = k_pw M f (i + n) ∧ y.1.length = E.length + n
  | 0, i, E, s, y, _, h1, h => by
    cases h
    exact ⟨h1, rfl⟩
  | n + 1, i, E, s, y, h0, h1, h => by
    obtain ⟨tt, h2, h3⟩ := k_b_inv h
    obtain ⟨v, h4, h5⟩ := k_b_inv h3
    have q := k_hp_eL (M := M) (f := f) (n := n) (i := i + 1) (ic := ic) (E := (M 91 (5 * f + i), 1 + v.2.1, v.2.2) :: E) (s := v.1) (y := y) (by rw [List.length_cons]; omega) (by
      show (if ic ≤ (E.length : Int) then M 91 (5 * f + i) :: eL ic E else []) = _
      rw [if_pos h0, h1]
      rfl) (by rw [show 5 * f + ((i + 1 : Nat) : Int) = 5 * f + (i : Int) + 1 by omega]; exact h5)
    exact ⟨by rw [q.1, show i + 1 + n = i + (n + 1) by omega], by rw [q.2, List.length_cons]; omega⟩
theorem k_hd_eL {M : Nat → Int → Int} {f : Int} {s : k_s} {y : k_E × k_s × k_h} (h88 : 0 ≤ M 88 f) (h : k_hd M f s = .inr y) : eL (M 88 f) y.1 = k_pw M f (M 93 f).toNat ∧ (y.1.length : Int) - M 88 f = (M 93 f).toNat := by
  unfold k_hd at h
  obtain ⟨ps, h1, h2⟩ := k_b_inv h
  obtain ⟨s1, h3, h4⟩ := k_b_inv h2
  obtain ⟨y1, h5, h6⟩ := k_b_inv h4
  obtain ⟨tt, h7, h8⟩ := k_b_inv h6
  cases h8
  have l0 : (k_hn M (4 * f) 0 (M 88 f).toNat []).length = (M 88 f).toNat := by rw [k_hn_ln, List.length_nil]; omega
  have q := k_hp_eL (ic := M 88 f) (f := f) (i := 0) (n := (M 93 f).toNat) (by rw [l0]; omega) (by rw [eL_0 (by rw [l0]; omega)]; rfl) (by rw [show 5 * f + ((0 : Nat) : Int) = 5 * f by omega]; exact h5)
  refine ⟨by rw [q.1, Nat.zero_add], ?_⟩
  rw [q.2, l0]
  omega
-- which are free
def nf01 (fr : Int → Int) : Prop := ∀ r, fr r = 0 ∨ fr r = 1
theorem nf01_R : kR (fun s s' => nf01 s.2.2.2 → nf01 s'.2.2.2) := by
  refine ⟨fun _ h => h, fun _ _ _ a b h => b (a h), fun pl s y h q => ?_, fun pl h s s' e q => ?_, fun f pl so h s s' e q => ?_, fun f pl h h' s s1 s2 r fr e1 e2 e3 q => ?_, fun _ _ _ h => h⟩
  · unfold k_nv at h
    split at h
    · cases h
    · cases h; exact q
  · unfold k_af at e
    split at e
    · cases e
    · cases e; exact q
  · unfold k_ag at e
    split at e
    · cases e
    · cases e; exact q
  · unfold k_ag at e1 e2
    split at e1
    · cases e1
    · cases e1
      split at e2
      · cases e2
      · cases e2
        intro r'
        show t_u s.2.2.2 r fr r' = 0 ∨ t_u s.2.2.2 r fr r' = 1
        by_cases hr : r' = r
        · rw [t_u_s hr]; exact e3
        · rw [t_u_o hr]; exact q r'

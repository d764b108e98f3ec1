/-! WHAT CHECK KEEPS, in general; and check as a whole -/
section
variable {RR : k_s → k_s → Prop}
/-- a relation that is kept by all that check does -/
def kR (RR : k_s → k_s → Prop) : Prop := (∀ s, RR s s) ∧ (∀ s s1 s2, RR s s1 → RR s1 s2 → RR s s2) ∧ (∀ pl s y, k_nv pl s = .inr y → RR s y.1) ∧ (∀ pl h s s', k_af pl h s = .inr s' → RR s s') ∧ (∀ f pl so h s s', k_ag f pl so h s = .inr s' → RR s s') ∧ (∀ (s : k_s) (r fr : Int), RR s (t_u (t_u s.1 5 (s.1 5 + 1)) 6 (s.1 6 + fr), s.2.1, s.2.2.1, t_u s.2.2.2 r fr)) ∧ (∀ v m s, RR s (k_bk v m s))
theorem kR_afs (hR : kR RR) {pl : Int} : ∀ {l : List (Int → Int)} {s s' : k_s}, k_afs pl l s = .inr s' → RR s s'
  | [], s, s', h => by cases h; exact hR.1 _
  | x :: l, s, s', h => by
    obtain ⟨a, h1, h2⟩ := k_b_inv (show k_b (k_af pl x s) (k_afs pl l) = .inr s' from h)
    exact hR.2.1 _ _ _ (hR.2.2.2.1 _ _ _ _ h1) (kR_afs hR h2)
theorem kR_ags (hR : kR RR) {f pl so : Int} : ∀ {l : List (Int → Int)} {s s' : k_s}, k_ags f pl so l s = .inr s' → RR s s'
  | [], s, s', h => by cases h; exact hR.1 _
  | x :: l, s, s', h => by
    obtain ⟨a, h1, h2⟩ := k_b_inv (show k_b (k_ag f pl so x s) (k_ags f pl so l) = .inr s' from h)
    exact hR.2.1 _ _ _ (hR.2.2.2.2.1 _ _ _ _ _ _ h1) (kR_ags hR h2)
theorem kR_gv (hR : kR RR) {t : k_h} {pl : Int} {s : k_s} {y : k_v} (h : k_gv t pl s = .inr y) : RR s y.1 := by
  unfold k_gv at h
  split at h
  · cases h; exact hR.1 _
  · split at h
    · obtain ⟨a, h1, h2⟩ := k_b_inv h
      cases h2
      exact hR.2.2.2.1 _ _ _ _ h1
    · obtain ⟨a, h1, h2⟩ := k_b_inv h
      try dsimp only at h2
      split at h2
      · obtain ⟨b, h3, h4⟩ := k_b_inv h2
        cases h4
        exact hR.2.1 _ _ _ (hR.2.2.1 _ _ _ h1) (kR_afs hR h3)
      · cases h2
        exact hR.2.2.1 _ _ _ h1
theorem kR_cg (hR : kR RR) {M : Nat → Int → Int} {f pl : Int} : ∀ {l : List (Int × (Int → Int))} {b : Int} {E : k_E} {s : k_s} {y : k_E × k_s}, k_cg M f pl b l E s = .inr y → RR s y.2
  | [], _, _, s, y, h => by cases h; exact hR.1 _
  | x :: l, b, E, s, y, h => by
    obtain ⟨t, _, h2⟩ := k_b_inv (show k_b (k_rs M E pl (M 92 b)) (fun t => k_b (k_ags f pl 3 (k_dm t x.2) s) (fun s1 => k_cg M f pl (b + 1) l ((M 91 b, 1 + x.1, x.2) :: E) s1)) = .inr y from h)
    obtain ⟨s1, h3, h4⟩ := k_b_inv h2
    exact hR.2.1 _ _ _ (kR_ags hR h3) (kR_cg hR h4)
theorem kR_cl (hR : kR RR) {M : Nat → Int → Int} {f g pl : Int} {is : List (Int → Int)} {vs : List (Int × (Int → Int))} {s : k_s} {y : k_v} (h : k_cl M f g pl is vs s = .inr y) : RR s y.1 := by
  unfold k_cl at h
  obtain ⟨ps, _, h2⟩ := k_b_inv h
  obtain ⟨s1, h3, h4⟩ := k_b_inv h2
  obtain ⟨z, h5, h6⟩ := k_b_inv h4
  obtain ⟨t, _, h8⟩ := k_b_inv h6
  exact hR.2.1 _ _ _ (kR_ags hR h3) (hR.2.1 _ _ _ (kR_cg hR h5) (kR_gv hR h8))
theorem kR_ca (hR : kR RR) {M : Nat → Int → Int} {W : Int → k_s → k_o k_v} (hW : ∀ a s y, W a s = .inr y → RR s y.1) : ∀ {n : Nat} {a b : Int} {s : k_s} {y : k_s × List (Int × (Int → Int))}, k_ca M W a b n s = .inr y → RR s y.1
  | 0, _, _, s, y, h => by cases h; exact hR.1 _
  | n + 1, a, b, s, y, h => by
    obtain ⟨z, h1, h2⟩ := k_b_inv (show k_b (W (M 118 a) s) (fun y => if (y.2.1 = 1) ↔ (M 113 (M 92 b) = 3) then k_b (k_ca M W (a + 1) (b + 1) n y.1) (fun q => .inr (q.1, (y.2.1, y.2.2) :: q.2)) else .inl (-6, M 102 (M 118 a))) = .inr y from h)
    try dsimp only at h2
    split at h2
    · obtain ⟨q, h3, h4⟩ := k_b_inv h2
      cases h4
      exact hR.2.1 _ _ _ (hW _ _ _ h1) (show RR z.1 q.1 from kR_ca hR hW h3)
    · cases h2
theorem kR_nw (hR : kR RR) {pl : Int} {s : k_s} {y : k_v} (h : k_nw pl s = .inr y) : RR s y.1 := by
  unfold k_nw at h
  obtain ⟨a, h1, h2⟩ := k_b_inv h
  cases h2
  exact hR.2.2.1 _ _ _ h1
theorem kR_sm (hR : kR RR) {pl : Int} {h : Int → Int} {s : k_s} {y : k_v} (q : k_sm pl h s = .inr y) : RR s y.1 := by
  rw [k_sm_nw] at q
  by_cases hi : k_in 1000000 h 0
  · rw [k_if_t hi] at q
    cases q
    exact hR.1 _
  · rw [k_if_f hi] at q
    exact kR_nw hR q
theorem kR_tw (hR : kR RR) {kd pl : Int} {h g : Int → Int} {s : k_s} {y : k_v} (q : k_tw kd pl h g s = .inr y) : RR s y.1 := by
  unfold k_tw k_ml at q
  split at q
  · by_cases h1 : k_u 0 h 0
    · rw [k_if_t h1] at q
      exact kR_sm hR q
    · rw [k_if_f h1] at q
      by_cases h2 : k_u 0 g 0
      · rw [k_if_t h2] at q
        exact kR_sm hR q
      · rw [k_if_f h2] at q
        exact kR_nw hR q
  · exact kR_sm hR q
theorem kR_dv (hR : kR RR) {pl n : Int} {h : Int → Int} {s : k_s} {y : k_v} (q : k_dv pl n h s = .inr y) : RR s y.1 := by
  unfold k_dv at q
  obtain ⟨a, h1, h2⟩ := k_b_inv q
  obtain ⟨b, h3, h4⟩ := k_b_inv h2
  obtain ⟨c, h5, h6⟩ := k_b_inv h4
  cases h6
  exact hR.2.1 _ _ _ (hR.2.2.1 _ _ _ h1) (hR.2.1 _ _ _ (hR.2.2.2.1 _ _ _ _ h3) (hR.2.2.2.1 _ _ _ _ h5))
theorem kR_ac (hR : kR RR) {f pl r : Int} {g h : Int → Int} {w : Option (Int → Int)} {s : k_s} {y : k_v} (q : k_ac f pl r g h w s = .inr y) : RR s y.1 := by
  have q : k_b (k_ag f pl 0 h s) (fun s1 => k_b (k_ag f pl 1 (k_p (k_p (k_m h (-1)) g 1) (k_n 1) (-1)) s1) (fun s2 => k_aw pl w (t_u (t_u s2.1 5 (s2.1 5 + 1)) 6 (s2.1 6 + (if s2.2.2.1 (s.1 2) 3 = 1 ∧ s2.2.2.1 (s1.1 2) 3 = 1 then 1 else 0)), s2.2.1, s2.2.2.1, t_u s2.2.2.2 r (if s2.2.2.1 (s.1 2) 3 = 1 ∧ s2.2.2.1 (s1.1 2) 3 = 1 then 1 else 0)))) = .inr y := by
    rw [← q]
    cases w <;> rfl
  obtain ⟨s1, h1, h2⟩ := k_b_inv q
  obtain ⟨s2, h3, h4⟩ := k_b_inv h2
  generalize (if s2.2.2.1 (s.1 2) 3 = 1 ∧ s2.2.2.1 (s1.1 2) 3 = 1 then (1 : Int) else 0) = fr at h4
  refine hR.2.1 _ _ _ (hR.2.2.2.2.1 _ _ _ _ _ _ h1) (hR.2.1 _ _ _ (hR.2.2.2.2.1 _ _ _ _ _ _ h3) (hR.2.1 _ _ _ (hR.2.2.2.2.2.1 s2 r fr) ?_))
  cases w with
  | none => exact kR_nw hR h4
  | some x => cases h4; exact hR.1 _
theorem kR_no (hR : kR RR) {pl r : Int} {h : Int → Int} {s s' : k_s} (q : k_no pl r h s = .inr s') : RR s s' := by
  unfold k_no at q
  split at q
  · cases q; exact hR.1 _
  · exact kR_afs hR q
theorem kR_jn (hR : kR RR) {pl pe v b b' : Int} {h h' : Int → Int} {s : k_s} {y : k_v} (q : k_jn pl pe v b h b' h' s = .inr y) : RR s y.1 := by
  unfold k_jn at q
  split at q
  · cases q
  · by_cases hc : k_e h h' ∧ k_u v h 0
    · rw [k_if_t hc] at q
      cases q
      exact hR.1 _
    · rw [k_if_f hc] at q
      obtain ⟨a, h1, h2⟩ := k_b_inv q
      try dsimp only at h2
      split at h2
      · obtain ⟨c, h3, h4⟩ := k_b_inv h2
        cases h4
        exact hR.2.1 _ _ _ (hR.2.2.1 _ _ _ h1) (hR.2.2.2.1 _ _ _ _ h3)
      · cases h2
        exact hR.2.2.1 _ _ _ h1
theorem kR_ck (hR : kR RR) {M : Nat → Int → Int} {fs f : Int} : ∀ {n : Nat} {w : Option k_h} {r : Int} {E : k_E} {s : k_s} {y : k_v}, k_ck M fs f n w r E s = .inr y → RR s y.1
  | 0, _, _, _, _, _, h => by cases h
  | n + 1, w, r, E, s, y, h => by
    have tr : ∀ {s s1 s2 : k_s}, RR s s1 → RR s1 s2 → RR s s2 := fun a b => hR.2.1 _ _ _ a b
    by_cases c12 : M 96 r = 12
    · rw [k_ck_12 c12] at h
      obtain ⟨a, h1, h2⟩ := k_b_inv h
      exact tr (kR_ck hR h1) (kR_ck hR h2)
    by_cases c13 : M 96 r = 13
    · rw [k_ck_13 c13] at h
      obtain ⟨a, h1, h2⟩ := k_b_inv h
      try dsimp only at h2
      split at h2
      · cases h2
      · exact tr (kR_ck hR h1) (kR_ck hR h2)
    by_cases c14 : M 96 r = 14
    · rw [k_ck_if c14] at h
      obtain ⟨a, h1, h2⟩ := k_b_inv h
      obtain ⟨b, h3, h4⟩ := k_b_inv h2
      unfold k_i3 at h4
      obtain ⟨s1, h5, h6⟩ := k_b_inv h4
      obtain ⟨z, h7, h8⟩ := k_b_inv h6
      unfold k_i4 at h8
      obtain ⟨s2, h9, h10⟩ := k_b_inv h8
      obtain ⟨x, h11, h12⟩ := k_b_inv h10
      have m2 : RR s (k_bk (b.1.1 0) (b.1.1 1) x.1) := tr (kR_ck hR (kM_nm h1).1) (tr (kR_ck hR (kM_nm h3).1) (tr (kR_afs hR h5) (tr (kR_ck hR h7) (tr (hR.2.2.2.2.2.2 _ _ _) (tr (kR_no hR h9) (tr (kR_ck hR h11) (hR.2.2.2.2.2.2 _ _ _)))))))
      cases w with
      | some t => cases h12; exact m2
      | none => exact tr m2 (kR_jn hR h12)
    by_cases c15 : M 96 r = 15
    · rw [k_ck_15 c15] at h
      exact kR_ck hR h
    have hp : k_pk (M 96 r) := ⟨c12, c13, c14, c15⟩
    cases w with
    | some t =>
      rw [k_ck_s hp] at h
      obtain ⟨a, h1, h2⟩ := k_b_inv h
      try dsimp only at h2
      split at h2
      · obtain ⟨b, h3, h4⟩ := k_b_inv h2
        cases h4
        exact tr (kR_ck hR h1) (kR_ags hR h3)
      · cases h2
    | none =>
      by_cases d0 : M 96 r = 0
      · rw [k_ck_n0 d0] at h
        cases h; exact (hR.1 _)
      by_cases d1 : M 96 r = 1
      · rw [k_ck_n1 d1] at h
        split at h
        · cases h
        · cases h; exact (hR.1 _)
      by_cases d5 : M 96 r = 5
      · rw [k_ck_n5 d5] at h
        split at h
        · cases h
        · split at h
          · cases h; exact (hR.1 _)
          · cases h
      by_cases d2 : M 96 r = 2 ∨ M 96 r = 3
      · rw [k_ck_n2 d2] at h
        split at h
        · cases h
        · split at h
          · obtain ⟨a, h1, h2⟩ := k_b_inv h
            try dsimp only at h2
            split at h2
            · exact tr (kR_ck hR (kM_nm h1).1) (kR_ac hR h2)
            · obtain ⟨b, h3, h4⟩ := k_b_inv h2
              exact tr (kR_ck hR (kM_nm h1).1) (tr (kR_ck hR (kM_nm h3).1) (kR_ac hR h4))
          · cases h
      by_cases d4 : M 96 r = 4
      · rw [k_ck_n4 d4] at h
        split at h
        · cases h
        · split at h
          · cases h
          · obtain ⟨is, _, h2⟩ := k_b_inv h
            obtain ⟨z, h3, h4⟩ := k_b_inv h2
            exact tr (kR_ca hR (fun a s y q => kR_ck hR q) h3) (kR_cl hR h4)
      by_cases d6 : M 96 r = 6
      · rw [k_ck_n6 d6] at h
        obtain ⟨a, h1, h2⟩ := k_b_inv h
        obtain ⟨b, h3, h4⟩ := k_b_inv h2
        cases h4
        exact tr (kR_ck hR (kM_nm h1).1) (hR.2.2.2.1 _ _ _ _ h3)
      by_cases d7 : M 96 r = 7
      · rw [k_ck_n7 d7] at h
        exact kR_ck hR (kM_nm h).1
      by_cases d16 : M 96 r = 16
      · rw [k_ck_n16 d16] at h
        obtain ⟨t, _, h2⟩ := k_b_inv h
        obtain ⟨z, h3, h4⟩ := k_b_inv h2
        exact tr (kR_ck hR h3) (kR_gv hR h4)
      rw [k_ck_ne hp ⟨d0, d1, d5, fun q => d2 (.inl q), fun q => d2 (.inr q), d4, d6, d7, d16⟩] at h
      obtain ⟨a, h1, h2⟩ := k_b_inv h
      try dsimp only at h2
      split at h2
      · exact tr (kR_ck hR (kM_nm h1).1) (kR_dv hR h2)
      · obtain ⟨b, h3, h4⟩ := k_b_inv h2
        exact tr (kR_ck hR (kM_nm h1).1) (tr (kR_ck hR (kM_nm h3).1) (kR_tw hR h4))
theorem kR_hp (hR : kR RR) {M : Nat → Int → Int} : ∀ {n : Nat} {b : Int} {E : k_E} {s : k_s} {y : k_E × k_s}, k_hp M b n E s = .inr y → RR s y.2
  | 0, _, _, s, y, h => by cases h; exact hR.1 _
  | n + 1, b, E, s, y, h => by
    obtain ⟨t, _, h2⟩ := k_b_inv (show k_b (k_rs M E (-1) (M 92 b)) (fun t => k_b (k_gv t 0 s) (fun y => k_hp M (b + 1) n ((M 91 b, 1 + y.2.1, y.2.2) :: E) y.1)) = .inr y from h)
    obtain ⟨z, h3, h4⟩ := k_b_inv h2
    exact hR.2.1 _ _ _ (kR_gv hR h3) (kR_hp hR h4)
theorem kR_hd (hR : kR RR) {M : Nat → Int → Int} {f : Int} {s : k_s} {y : k_E × k_s × k_h} (h : k_hd M f s = .inr y) : RR s y.2.1 := by
  unfold k_hd at h
  obtain ⟨ps, _, h2⟩ := k_b_inv h
  obtain ⟨s1, h3, h4⟩ := k_b_inv h2
  obtain ⟨z, h5, h6⟩ := k_b_inv h4
  obtain ⟨t, _, h8⟩ := k_b_inv h6
  cases h8
  exact hR.2.1 _ _ _ (hR.2.2.2.2.2.2 (M 88 f) 0 s) (hR.2.1 _ _ _ (kR_afs hR h3) (kR_hp hR h5))
end
/-- how many goals are proved, and whether all that must be are -/
def cP (G : Int → Int → Int) : Nat → Int
  | 0 => 0
  | n + 1 => cP G n + (if G n 3 = 1 then 1 else 0)
def cA (G : Int → Int → Int) : Nat → Int
  | 0 => 1
  | n + 1 => if G n 3 = 1 ∨ G n 2 ≤ 1 then cA G n else 0
theorem cP_c {G G' : Int → Int → Int} : ∀ {n : Nat}, (∀ j : Int, 0 ≤ j → j < n → G' j = G j) → cP G' n = cP G n
  | 0, _ => rfl
  | n + 1, h => by
    show cP G' n + _ = cP G n + _
    rw [cP_c (fun j j0 j1 => h j j0 (by omega)), h n (by omega) (by omega)]
theorem cA_c {G G' : Int → Int → Int} : ∀ {n : Nat}, (∀ j : Int, 0 ≤ j → j < n → G' j = G j) → cA G' n = cA G n
  | 0, _ => rfl
  | n + 1, h => by
    show (if G' n 3 = 1 ∨ G' n 2 ≤ 1 then cA G' n else 0) = if G n 3 = 1 ∨ G n 2 ≤ 1 then cA G n else 0
    rw [cA_c (fun j j0 j1 => h j j0 (by omega)), h n (by omega) (by omega)]
/-- the numbers of proved goals are right -/
def kC (s : k_s) : Prop := 0 ≤ s.1 2 ∧ s.1 3 = cP s.2.2.1 (s.1 2).toNat ∧ s.1 4 = cA s.2.2.1 (s.1 2).toNat
theorem kC_R : kR (fun s s' => kC s → kC s') := by
  have same : ∀ (s s' : k_s), (∀ i, i = 2 ∨ i = 3 ∨ i = 4 → s'.1 i = s.1 i) → s'.2.2.1 = s.2.2.1 → kC s → kC s' := fun s s' h1 h2 h => by
    unfold kC at h ⊢
    rw [h1 2 (by omega), h1 3 (by omega), h1 4 (by omega), h2]
    exact h
  refine ⟨fun _ h => h, fun _ _ _ h1 h2 h => h2 (h1 h), fun pl s y h => ?_, fun pl h s s' q => ?_, fun f pl so h s s' q => ?_, fun s r fr => same _ _ (fun i hi => ?_) rfl, fun v m s => same _ _ (fun i hi => ?_) rfl⟩
  · unfold k_nv at h
    split at h
    · cases h
    · cases h
      exact same _ _ (fun i hi => t_u_o (by omega)) rfl
  · unfold k_af at q
    split at q
    · cases q
    · cases q
      exact same _ _ (fun i hi => t_u_o (by omega)) rfl
  · intro hc
    obtain ⟨c1, c2, c3⟩ := hc
    unfold k_ag at q
    split at q
    · cases q
    · cases q
      have hG : ∀ j : Int, 0 ≤ j → j < (s.1 2).toNat → k_ur s.2.2.1 (s.1 2) (k_gr f pl so h s) j = s.2.2.1 j := fun j j0 j1 => k_ur_o (by omega)
      have e2 : (k_gn so h s) 2 = s.1 2 + 1 := k_gn_2
      have hn : (s.1 2 + 1).toNat = (s.1 2).toNat + 1 := by omega
      have hi : (((s.1 2).toNat : Nat) : Int) = s.1 2 := by omega
      have row : k_ur s.2.2.1 (s.1 2) (k_gr f pl so h s) (((s.1 2).toNat : Nat) : Int) = k_gr f pl so h s := k_ur_s hi
      refine ⟨?_, ?_, ?_⟩
      · show 0 ≤ (k_gn so h s) 2
        rw [e2]
        omega
      · show (k_gn so h s) 3 = cP (k_ur s.2.2.1 (s.1 2) (k_gr f pl so h s)) ((k_gn so h s) 2).toNat
        rw [e2, hn]
        show _ = cP (k_ur s.2.2.1 (s.1 2) (k_gr f pl so h s)) (s.1 2).toNat + (if k_ur s.2.2.1 (s.1 2) (k_gr f pl so h s) (((s.1 2).toNat : Nat) : Int) 3 = 1 then 1 else 0)
        rw [cP_c hG, row, ← c2]
        show (k_gn so h s) 3 = s.1 3 + (if k_sp s.2.1 (s.1 1) h = 1 then 1 else 0)
        unfold k_gn
        by_cases hk : k_sp s.2.1 (s.1 1) h = 1
        · rw [if_pos hk, if_pos hk, t_u_s rfl]
        · rw [if_neg hk, if_neg hk, t_u_o (by decide), t_u_o (by decide)]
          omega
      · show (k_gn so h s) 4 = cA (k_ur s.2.2.1 (s.1 2) (k_gr f pl so h s)) ((k_gn so h s) 2).toNat
        rw [e2, hn]
        show _ = if k_ur s.2.2.1 (s.1 2) (k_gr f pl so h s) (((s.1 2).toNat : Nat) : Int) 3 = 1 ∨ k_ur s.2.2.1 (s.1 2) (k_gr f pl so h s) (((s.1 2).toNat : Nat) : Int) 2 ≤ 1 then cA (k_ur s.2.2.1 (s.1 2) (k_gr f pl so h s)) (s.1 2).toNat else 0
        rw [cA_c hG, row, ← c3]
        show (k_gn so h s) 4 = if k_sp s.2.1 (s.1 1) h = 1 ∨ so ≤ 1 then s.1 4 else 0
        unfold k_gn
        by_cases hk : k_sp s.2.1 (s.1 1) h = 1
        · rw [if_pos hk, if_pos (.inl hk), t_u_o (by decide), t_u_o (by decide)]
        · rw [if_neg hk, t_u_s rfl]
          by_cases h1 : so ≤ 1
          · rw [if_pos h1, if_pos (.inr h1)]
          · rw [if_neg h1, if_neg (by omega)]
  · show t_u (t_u s.1 5 (s.1 5 + 1)) 6 (s.1 6 + fr) i = s.1 i
    rw [t_u_o (by omega), t_u_o (by omega)]
  · show t_u (t_u s.1 0 v) 1 m i = s.1 i
    rw [t_u_o (by omega), t_u_o (by omega)]
/-- all headers; a fault has the function too -/
noncomputable def k_c1 (M : Nat → Int → Int) : Int → Nat → k_s → (Int × Int × Int) ⊕ k_s
  | _, 0, s => .inr s
  | f, n + 1, s => match k_hd M f s with
    | .inl z => .inl (z.1, z.2, f)
    | .inr y => k_c1 M (f + 1) n y.2.1
/-- all bodies, with fuel N -/
noncomputable def k_c2 (M : Nat → Int → Int) (fs : Int) (N : Int → Nat) : Int → Nat → k_s → (Int × Int × Int) ⊕ k_s
  | _, 0, s => .inr s
  | f, n + 1, s => match k_hd M f s with
    | .inl z => .inl (z.1, z.2, f)
    | .inr y => match k_ck M fs f (N f) (some y.2.2) (M 95 f) y.1 y.2.1 with
      | .inl z => .inl (z.1, z.2, f)
      | .inr x => k_c2 M fs N (f + 1) n x.1
/-- check, as far as the goals -/
noncomputable def k_ch (M : Nat → Int → Int) (fs : Int) (N : Int → Nat) (s : k_s) : (Int × Int × Int) ⊕ k_s := match k_c1 M 0 fs.toNat s with
  | .inl z => .inl z
  | .inr s1 => k_c2 M fs N 0 fs.toNat s1
theorem k_c1_ok {M : Nat → Int → Int} : ∀ {n : Nat} {f : Int} {s s' : k_s}, k_c1 M f n s = .inr s' → ∀ g, f ≤ g → g < f + n → ∃ s0 z, k_hd M g s0 = .inr z
  | 0, f, _, _, _, g, g0, g1 => by omega
  | n + 1, f, s, s', h, g, g0, g1 => by
    have h : (match k_hd M f s with
      | .inl z => (.inl (z.1, z.2, f) : (Int × Int × Int) ⊕ k_s)
      | .inr y => k_c1 M (f + 1) n y.2.1) = .inr s' := h
    rcases hh : k_hd M f s with z | y
    · rw [hh] at h
      cases h
    · rw [hh] at h
      by_cases hg : g = f
      · rw [hg]
        exact ⟨s, y, hh⟩
      · exact k_c1_ok h g (by omega) (by omega)
theorem kC_c1 {M : Nat → Int → Int} : ∀ {n : Nat} {f : Int} {s s' : k_s}, kC s → k_c1 M f n s = .inr s' → kC s'
  | 0, _, s, s', hc, h => by cases h; exact hc
  | n + 1, f, s, s', hc, h => by
    have h : (match k_hd M f s with
      | .inl z => (.inl (z.1, z.2, f) : (Int × Int × Int) ⊕ k_s)
      | .inr y => k_c1 M (f + 1) n y.2.1) = .inr s' := h
    rcases hh : k_hd M f s with z | y
    · rw [hh] at h
      cases h
    · rw [hh] at h
      exact kC_c1 (kR_hd kC_R hh hc) h
theorem kC_c2 {M : Nat → Int → Int} {fs : Int} {N : Int → Nat} : ∀ {n : Nat} {f : Int} {s s' : k_s}, kC s → k_c2 M fs N f n s = .inr s' → kC s'
  | 0, _, s, s', hc, h => by cases h; exact hc
  | n + 1, f, s, s', hc, h => by
    have h : (match k_hd M f s with
      | .inl z => (.inl (z.1, z.2, f) : (Int × Int × Int) ⊕ k_s)
      | .inr y => match k_ck M fs f (N f) (some y.2.2) (M 95 f) y.1 y.2.1 with
        | .inl z => .inl (z.1, z.2, f)
        | .inr x => k_c2 M fs N (f + 1) n x.1) = .inr s' := h
    rcases hh : k_hd M f s with z | y
    · rw [hh] at h
      cases h
    · rw [hh] at h
      have h : (match k_ck M fs f (N f) (some y.2.2) (M 95 f) y.1 y.2.1 with
        | .inl z => (.inl (z.1, z.2, f) : (Int × Int × Int) ⊕ k_s)
        | .inr x => k_c2 M fs N (f + 1) n x.1) = .inr s' := h
      rcases hk : k_ck M fs f (N f) (some y.2.2) (M 95 f) y.1 y.2.1 with z | x
      · rw [hk] at h
        cases h
      · rw [hk] at h
        exact kC_c2 (kR_ck kC_R hk (kR_hd kC_R hh hc)) h

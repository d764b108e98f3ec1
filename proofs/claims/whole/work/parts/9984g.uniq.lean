/-! EACH ACCESS HAS A PLACE OF ITS OWN: what is marked free stays so -/
def k_agl (M : Nat → Int → Int) : Int → Nat → List Int
  | _, 0 => []
  | a, n + 1 => M 118 a :: k_agl M (a + 1) n
/-- the parts of a node -/
def k_pa (M : Nat → Int → Int) (r : Int) : List Int :=
  if M 96 r = 2 then [M 98 r] else if M 96 r = 3 then [M 98 r, M 99 r] else if M 96 r = 4 then k_agl M (M 98 r) (M 99 r).toNat
  else if M 96 r = 6 ∨ M 96 r = 7 ∨ M 96 r = 11 ∨ M 96 r = 15 ∨ M 96 r = 16 then [M 97 r]
  else if M 96 r = 8 ∨ M 96 r = 9 ∨ M 96 r = 10 ∨ M 96 r = 12 then [M 97 r, M 98 r]
  else if M 96 r = 13 then [M 98 r, M 99 r] else if M 96 r = 14 then [M 98 r, M 99 r, M 100 r, M 101 r] else []
def uL (U : Int → (Int → Prop) → Prop) : List Int → (Int → Prop) → Prop
  | [], _ => True
  | a :: l, D => ∃ D1 D2 : Int → Prop, (∀ x, D1 x → D x) ∧ (∀ x, D2 x → D x ∧ ¬ D1 x) ∧ U a D1 ∧ uL U l D2
/-- accesses at r and below lie in D, those of its parts apart from each other -/
def un (M : Nat → Int → Int) : Nat → Int → (Int → Prop) → Prop
  | 0, _, _ => False
  | L + 1, r, D => ((0 ≤ M 96 r ∧ M 96 r ≤ 16) ∧ (M 96 r = 2 ∨ M 96 r = 3 → D r)) ∧ uL (un M L) (k_pa M r) (fun x => D x ∧ (M 96 r = 2 ∨ M 96 r = 3 → x ≠ r))
theorem uL_mo {U : Int → (Int → Prop) → Prop} : ∀ {l : List Int} {D D' : Int → Prop}, (∀ x, D x → D' x) → uL U l D → uL U l D'
  | [], _, _, _, _ => trivial
  | a :: l, D, D', h, ⟨D1, D2, h1, h2, h3, h4⟩ => ⟨D1, D2, fun x hx => h x (h1 x hx), fun x hx => ⟨h x (h2 x hx).1, (h2 x hx).2⟩, h3, h4⟩
theorem un_mo {M : Nat → Int → Int} {L : Nat} {r : Int} {D D' : Int → Prop} (h : ∀ x, D x → D' x) (q : un M L r D) : un M L r D' := by
  cases L with
  | zero => exact q.elim
  | succ L => exact ⟨⟨q.1.1, fun c => h r (q.1.2 c)⟩, uL_mo (fun x hx => ⟨h x hx.1, hx.2⟩) q.2⟩
/-! marks stay -/
theorem nf_nv {pl : Int} {s : k_s} {y : k_s × Int} (h : k_nv pl s = .inr y) : y.1.2.2.2 = s.2.2.2 := by
  unfold k_nv at h
  split at h
  · cases h
  · cases h; rfl
theorem nf_af {pl : Int} {g : Int → Int} {s s' : k_s} (h : k_af pl g s = .inr s') : s'.2.2.2 = s.2.2.2 := by
  unfold k_af at h
  split at h
  · cases h
  · cases h; rfl
theorem nf_ag {f pl so : Int} {g : Int → Int} {s s' : k_s} (h : k_ag f pl so g s = .inr s') : s'.2.2.2 = s.2.2.2 := by
  unfold k_ag at h
  split at h
  · cases h
  · cases h; rfl
theorem nf_afs {pl : Int} : ∀ {l : List (Int → Int)} {s s' : k_s}, k_afs pl l s = .inr s' → s'.2.2.2 = s.2.2.2
  | [], s, s', h => by cases h; rfl
  | x :: l, s, s', h => by
    obtain ⟨a, h1, h2⟩ := k_b_inv (show k_b (k_af pl x s) (k_afs pl l) = .inr s' from h)
    rw [nf_afs h2, nf_af h1]
theorem nf_ags {f pl so : Int} : ∀ {l : List (Int → Int)} {s s' : k_s}, k_ags f pl so l s = .inr s' → s'.2.2.2 = s.2.2.2
  | [], s, s', h => by cases h; rfl
  | x :: l, s, s', h => by
    obtain ⟨a, h1, h2⟩ := k_b_inv (show k_b (k_ag f pl so x s) (k_ags f pl so l) = .inr s' from h)
    rw [nf_ags h2, nf_ag h1]
theorem nf_gv {t : k_h} {pl : Int} {s : k_s} {y : k_v} (h : k_gv t pl s = .inr y) : y.1.2.2.2 = s.2.2.2 := by
  unfold k_gv at h
  split at h
  · cases h; rfl
  · split at h
    · obtain ⟨a, h1, h2⟩ := k_b_inv h
      cases h2; exact nf_af h1
    · obtain ⟨a, h1, h2⟩ := k_b_inv h
      try dsimp only at h2
      split at h2
      · obtain ⟨b, h3, h4⟩ := k_b_inv h2
        cases h4
        dsimp only
        rw [nf_afs h3, nf_nv h1]
      · cases h2; exact nf_nv h1
theorem nf_cg {M : Nat → Int → Int} {f pl : Int} : ∀ {l : List (Int × (Int → Int))} {b : Int} {E : k_E} {s : k_s} {y : k_E × k_s}, k_cg M f pl b l E s = .inr y → y.2.2.2.2 = s.2.2.2
  | [], _, _, _, _, h => by cases h; rfl
  | x :: l, b, E, s, y, h => by
    obtain ⟨t, h1, h2⟩ := k_b_inv (show k_b (k_rs M E pl (M 92 b)) _ = .inr y from h)
    obtain ⟨s1, h3, h4⟩ := k_b_inv h2
    rw [nf_cg h4, nf_ags h3]
theorem nf_cl {M : Nat → Int → Int} {f g pl : Int} {is : List (Int → Int)} {vs : List (Int × (Int → Int))} {s : k_s} {y : k_v} (h : k_cl M f g pl is vs s = .inr y) : y.1.2.2.2 = s.2.2.2 := by
  unfold k_cl at h
  obtain ⟨ps, h1, h2⟩ := k_b_inv h
  obtain ⟨s1, h3, h4⟩ := k_b_inv h2
  obtain ⟨q, h5, h6⟩ := k_b_inv h4
  obtain ⟨t, h7, h8⟩ := k_b_inv h6
  rw [nf_gv h8, nf_cg h5, nf_ags h3]
theorem nf_nw {pl : Int} {s : k_s} {y : k_v} (h : k_nw pl s = .inr y) : y.1.2.2.2 = s.2.2.2 := by
  unfold k_nw at h
  obtain ⟨a, h1, h2⟩ := k_b_inv h
  cases h2
  exact nf_nv h1
theorem nf_sm {pl : Int} {h : Int → Int} {s : k_s} {y : k_v} (q : k_sm pl h s = .inr y) : y.1.2.2.2 = s.2.2.2 := by
  rw [k_sm_nw] at q
  by_cases hi : k_in 1000000 h 0
  · rw [k_if_t hi] at q
    cases q; rfl
  · rw [k_if_f hi] at q
    exact nf_nw q
theorem nf_tw {kd pl : Int} {h g : Int → Int} {s : k_s} {y : k_v} (q : k_tw kd pl h g s = .inr y) : y.1.2.2.2 = s.2.2.2 := by
  unfold k_tw k_ml at q
  split at q
  · by_cases h1 : k_u 0 h 0
    · rw [k_if_t h1] at q
      exact nf_sm q
    · rw [k_if_f h1] at q
      by_cases h2 : k_u 0 g 0
      · rw [k_if_t h2] at q
        exact nf_sm q
      · rw [k_if_f h2] at q
        exact nf_nw q
  · exact nf_sm q
theorem nf_dv {pl n : Int} {h : Int → Int} {s : k_s} {y : k_v} (q : k_dv pl n h s = .inr y) : y.1.2.2.2 = s.2.2.2 := by
  unfold k_dv at q
  obtain ⟨a, h1, h2⟩ := k_b_inv q
  obtain ⟨b, h3, h4⟩ := k_b_inv h2
  obtain ⟨c, h5, h6⟩ := k_b_inv h4
  cases h6
  dsimp only
  rw [nf_af h5, nf_af h3, nf_nv h1]
theorem nf_no {pl r : Int} {h : Int → Int} {s s' : k_s} (q : k_no pl r h s = .inr s') : s'.2.2.2 = s.2.2.2 := by
  unfold k_no at q
  split at q
  · cases q; rfl
  · exact nf_afs q
theorem nf_jn {pl pe v b b' : Int} {h h' : Int → Int} {s : k_s} {y : k_v} (q : k_jn pl pe v b h b' h' s = .inr y) : y.1.2.2.2 = s.2.2.2 := by
  unfold k_jn at q
  split at q
  · cases q
  · by_cases hc : k_e h h' ∧ k_u v h 0
    · rw [k_if_t hc] at q
      cases q; rfl
    · rw [k_if_f hc] at q
      obtain ⟨a, h1, h2⟩ := k_b_inv q
      try dsimp only at h2
      split at h2
      · obtain ⟨c, h3, h4⟩ := k_b_inv h2
        cases h4
        dsimp only
        rw [nf_af h3, nf_nv h1]
      · cases h2
        exact nf_nv h1
/-- an access marks its own node -/
theorem nf_ac {f pl r : Int} {g h : Int → Int} {w : Option (Int → Int)} {s : k_s} {y : k_v} (q : k_ac f pl r g h w s = .inr y) : ∀ x, x ≠ r → y.1.2.2.2 x = s.2.2.2 x := by
  rw [k_ac_aw] at q
  obtain ⟨s1, h1, h2⟩ := k_b_inv q
  obtain ⟨s2, h3, h4⟩ := k_b_inv h2
  intro x hx
  have e : ∀ fr : Int, t_u s2.2.2.2 r fr x = s.2.2.2 x := fun fr => by rw [t_u_o hx, nf_ag h3, nf_ag h1]
  cases w with
  | none =>
    rw [nf_nw h4]
    exact e _
  | some v =>
    cases h4
    exact e _
theorem nf_ca {M : Nat → Int → Int} {W : Int → k_s → k_o k_v} {U : Int → (Int → Prop) → Prop} (hW : ∀ a D s y, U a D → W a s = .inr y → ∀ x, ¬ D x → y.1.2.2.2 x = s.2.2.2 x) : ∀ {n : Nat} {a b : Int} {s : k_s} {q : k_s × List (Int × (Int → Int))} {D : Int → Prop}, uL U (k_agl M a n) D → k_ca M W a b n s = .inr q → ∀ x, ¬ D x → q.1.2.2.2 x = s.2.2.2 x
  | 0, _, _, _, _, _, _, h, x, _ => by cases h; rfl
  | n + 1, a, b, s, q, D, ⟨D1, D2, u1, u2, u3, u4⟩, h, x, hx => by
    obtain ⟨y, h1, h2⟩ := k_b_inv (show k_b (W (M 118 a) s) _ = .inr q from h)
    by_cases c : (y.2.1 = 1) ↔ (M 113 (M 92 b) = 3)
    · rw [if_pos c] at h2
      obtain ⟨q2, h3, h4⟩ := k_b_inv h2
      cases h4
      rw [show ((q2.1, (y.2.1, y.2.2) :: q2.2).1 : k_s) = q2.1 from rfl, nf_ca hW u4 h3 x (fun z => hx (u2 x z).1), hW _ _ _ _ u3 h1 x (fun z => hx (u1 x z))]
    · rw [if_neg c] at h2; cases h2
theorem nf_ck {M : Nat → Int → Int} {fs f : Int} : ∀ (n : Nat) {L : Nat} {w : Option k_h} {r : Int} {E : k_E} {s : k_s} {y : k_v} {D : Int → Prop}, un M L r D → k_ck M fs f n w r E s = .inr y → ∀ x, ¬ D x → y.1.2.2.2 x = s.2.2.2 x
  | 0, _, _, _, _, _, _, _, _, h, _, _ => by cases h
  | n + 1, 0, _, _, _, _, _, _, u, _, _, _ => u.elim
  | n + 1, L + 1, w, r, E, s, y, D, u, h, x, hx => by
    have u0 := u
    obtain ⟨⟨uk, ua⟩, ub⟩ := u
    unfold k_pa at ub
    by_cases c12 : M 96 r = 12
    · rw [if_neg (by omega), if_neg (by omega), if_neg (by omega), if_neg (by omega), if_pos (by omega)] at ub
      obtain ⟨D1, D2, v1, v2, v3, D3, D4, v4, v5, v6, -⟩ := ub
      rw [k_ck_12 c12] at h
      obtain ⟨a, h1, h2⟩ := k_b_inv h
      rw [nf_ck n v6 h2 x (fun z => hx (v2 x (v4 x z)).1.1), nf_ck n v3 h1 x (fun z => hx (v1 x z).1)]
    by_cases c13 : M 96 r = 13
    · rw [if_neg (by omega), if_neg (by omega), if_neg (by omega), if_neg (by omega), if_neg (by omega), if_pos c13] at ub
      obtain ⟨D1, D2, v1, v2, v3, D3, D4, v4, v5, v6, -⟩ := ub
      rw [k_ck_13 c13] at h
      obtain ⟨a, h1, h2⟩ := k_b_inv h
      try dsimp only at h2
      split at h2
      · cases h2
      · rw [nf_ck n v6 h2 x (fun z => hx (v2 x (v4 x z)).1.1), nf_ck n v3 h1 x (fun z => hx (v1 x z).1)]
    by_cases c14 : M 96 r = 14
    · rw [if_neg (by omega), if_neg (by omega), if_neg (by omega), if_neg (by omega), if_neg (by omega), if_neg (by omega), if_pos c14] at ub
      obtain ⟨D1, D2, v1, v2, v3, D3, D4, v4, v5, v6, D5, D6, v7, v8, v9, D7, D8, v10, v11, v12, -⟩ := ub
      rw [k_ck_if c14] at h
      obtain ⟨a, h1, h2⟩ := k_b_inv h
      obtain ⟨b, h3, h4⟩ := k_b_inv h2
      unfold k_i3 at h4
      obtain ⟨s1, h5, h6⟩ := k_b_inv h4
      obtain ⟨z, h7, h8⟩ := k_b_inv h6
      unfold k_i4 at h8
      obtain ⟨s2, h9, h10⟩ := k_b_inv h8
      obtain ⟨q, h11, h12⟩ := k_b_inv h10
      have e1 := nf_ck n v3 (kM_nm h1).1 x (fun z => hx (v1 x z).1)
      have e2 := nf_ck n v6 (kM_nm h3).1 x (fun z => hx (v2 x (v4 x z)).1.1)
      have e3 := nf_ck n v9 h7 x (fun z => hx (v2 x (v5 x (v7 x z)).1).1.1)
      have e4 := nf_ck n v12 h11 x (fun z => hx (v2 x (v5 x (v8 x (v10 x z)).1).1).1.1)
      have e5 : y.1.2.2.2 x = q.1.2.2.2 x := by
        cases w with
        | some t => cases h12; rfl
        | none => rw [nf_jn h12]; rfl
      rw [e5, e4, nf_no h9]
      show z.1.2.2.2 x = _
      rw [e3, nf_afs h5, e2, e1]
    by_cases c15 : M 96 r = 15
    · rw [if_neg (by omega), if_neg (by omega), if_neg (by omega), if_pos (by omega)] at ub
      obtain ⟨D1, D2, v1, v2, v3, -⟩ := ub
      rw [k_ck_15 c15] at h
      exact nf_ck n v3 h x (fun z => hx (v1 x z).1)
    have hp : k_pk (M 96 r) := ⟨c12, c13, c14, c15⟩
    cases w with
    | some t =>
      rw [k_ck_s hp] at h
      obtain ⟨a, h1, h2⟩ := k_b_inv h
      try dsimp only at h2
      split at h2
      · obtain ⟨b, h3, h4⟩ := k_b_inv h2
        cases h4
        dsimp only
        rw [nf_ags h3, nf_ck n u0 h1 x hx]
      · cases h2
    | none =>
      by_cases d0 : M 96 r = 0
      · rw [k_ck_n0 d0] at h
        cases h; rfl
      by_cases d1 : M 96 r = 1
      · rw [k_ck_n1 d1] at h
        split at h
        · cases h
        · cases h; rfl
      by_cases d5 : M 96 r = 5
      · rw [k_ck_n5 d5] at h
        split at h
        · cases h
        · split at h
          · cases h; rfl
          · cases h
      by_cases d2 : M 96 r = 2
      · rw [if_pos d2] at ub
        obtain ⟨D1, D2, v1, v2, v3, -⟩ := ub
        rw [k_ck_n2 (.inl d2)] at h
        split at h
        · cases h
        · split at h
          · obtain ⟨a, h1, h2⟩ := k_b_inv h
            rw [nf_ac h2 x (fun z => hx (by rw [z]; exact ua (.inl d2))), nf_ck n v3 (kM_nm h1).1 x (fun z => hx (v1 x z).1)]
          · cases h
      by_cases d3 : M 96 r = 3
      · rw [if_neg d2, if_pos d3] at ub
        obtain ⟨D1, D2, v1, v2, v3, D3, D4, v4, v5, v6, -⟩ := ub
        rw [k_ck_n2 (.inr d3)] at h
        split at h
        · cases h
        · split at h
          · obtain ⟨a, h1, h2⟩ := k_b_inv h
            obtain ⟨b, h3, h4⟩ := k_b_inv h2
            rw [nf_ac h4 x (fun z => hx (by rw [z]; exact ua (.inr d3))), nf_ck n v6 (kM_nm h3).1 x (fun z => hx (v2 x (v4 x z)).1.1), nf_ck n v3 (kM_nm h1).1 x (fun z => hx (v1 x z).1)]
          · cases h
      by_cases d4 : M 96 r = 4
      · rw [if_neg d2, if_neg d3, if_pos d4] at ub
        rw [k_ck_n4 d4] at h
        split at h
        · cases h
        · split at h
          · cases h
          · obtain ⟨is, _, h2⟩ := k_b_inv h
            obtain ⟨z, h3, h4⟩ := k_b_inv h2
            rw [nf_cl h4, nf_ca (U := un M L) (fun a D s y ha q x hx => nf_ck n ha q x hx) ub h3 x (fun z => hx z.1)]
      by_cases d6 : M 96 r = 6
      · rw [if_neg (by omega), if_neg (by omega), if_neg (by omega), if_pos (by omega)] at ub
        obtain ⟨D1, D2, v1, v2, v3, -⟩ := ub
        rw [k_ck_n6 d6] at h
        obtain ⟨a, h1, h2⟩ := k_b_inv h
        obtain ⟨b, h3, h4⟩ := k_b_inv h2
        cases h4
        dsimp only
        rw [nf_af h3, nf_ck n v3 (kM_nm h1).1 x (fun z => hx (v1 x z).1)]
      by_cases d7 : M 96 r = 7
      · rw [if_neg (by omega), if_neg (by omega), if_neg (by omega), if_pos (by omega)] at ub
        obtain ⟨D1, D2, v1, v2, v3, -⟩ := ub
        rw [k_ck_n7 d7] at h
        exact nf_ck n v3 (kM_nm h).1 x (fun z => hx (v1 x z).1)
      by_cases d16 : M 96 r = 16
      · rw [if_neg (by omega), if_neg (by omega), if_neg (by omega), if_pos (by omega)] at ub
        obtain ⟨D1, D2, v1, v2, v3, -⟩ := ub
        rw [k_ck_n16 d16] at h
        obtain ⟨t, _, h2⟩ := k_b_inv h
        obtain ⟨z, h3, h4⟩ := k_b_inv h2
        rw [nf_gv h4, nf_ck n v3 h3 x (fun z => hx (v1 x z).1)]
      rw [k_ck_ne hp ⟨d0, d1, d5, d2, d3, d4, d6, d7, d16⟩] at h
      obtain ⟨a, h1, h2⟩ := k_b_inv h
      try dsimp only at h2
      by_cases d11 : M 96 r = 11
      · rw [if_neg (by omega), if_neg (by omega), if_neg (by omega), if_pos (by omega)] at ub
        obtain ⟨D1, D2, v1, v2, v3, -⟩ := ub
        rw [if_pos d11] at h2
        rw [nf_dv h2, nf_ck n v3 (kM_nm h1).1 x (fun z => hx (v1 x z).1)]
      · rw [if_neg d11] at h2
        obtain ⟨b, h3, h4⟩ := k_b_inv h2
        by_cases d8 : M 96 r = 8 ∨ M 96 r = 9 ∨ M 96 r = 10
        · rw [if_neg (by omega), if_neg (by omega), if_neg (by omega), if_neg (by omega), if_pos (by omega)] at ub
          obtain ⟨D1, D2, v1, v2, v3, D3, D4, v4, v5, v6, -⟩ := ub
          rw [nf_tw h4, nf_ck n v6 (kM_nm h3).1 x (fun z => hx (v2 x (v4 x z)).1.1), nf_ck n v3 (kM_nm h1).1 x (fun z => hx (v1 x z).1)]
        · omega

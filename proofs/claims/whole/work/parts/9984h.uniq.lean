/-! EACH ACCESS HAS A PLACE OF ITS OWN: from both trees -/
section
variable {M : Nat → Int → Int} {T : Int → Int} {z : Int} {S : e_S} {r : Int}
theorem pa_0 (h : M 96 r = 0 ∨ M 96 r = 1 ∨ M 96 r = 5) : k_pa M r = [] := by
  unfold k_pa
  rw [if_neg (by omega), if_neg (by omega), if_neg (by omega), if_neg (by omega), if_neg (by omega), if_neg (by omega), if_neg (by omega)]
theorem pa_2 (h : M 96 r = 2) : k_pa M r = [M 98 r] := by
  unfold k_pa
  rw [if_pos h]
theorem pa_3 (h : M 96 r = 3) : k_pa M r = [M 98 r, M 99 r] := by
  unfold k_pa
  rw [if_neg (by omega), if_pos h]
theorem pa_4 (h : M 96 r = 4) : k_pa M r = k_agl M (M 98 r) (M 99 r).toNat := by
  unfold k_pa
  rw [if_neg (by omega), if_neg (by omega), if_pos h]
theorem pa_6 (h : M 96 r = 6 ∨ M 96 r = 7 ∨ M 96 r = 11 ∨ M 96 r = 15 ∨ M 96 r = 16) : k_pa M r = [M 97 r] := by
  unfold k_pa
  rw [if_neg (by omega), if_neg (by omega), if_neg (by omega), if_pos h]
theorem pa_8 (h : M 96 r = 8 ∨ M 96 r = 9 ∨ M 96 r = 10 ∨ M 96 r = 12) : k_pa M r = [M 97 r, M 98 r] := by
  unfold k_pa
  rw [if_neg (by omega), if_neg (by omega), if_neg (by omega), if_neg (by omega), if_pos h]
theorem pa_13 (h : M 96 r = 13) : k_pa M r = [M 98 r, M 99 r] := by
  unfold k_pa
  rw [if_neg (by omega), if_neg (by omega), if_neg (by omega), if_neg (by omega), if_neg (by omega), if_pos h]
theorem pa_14 (h : M 96 r = 14) : k_pa M r = [M 98 r, M 99 r, M 100 r, M 101 r] := by
  unfold k_pa
  rw [if_neg (by omega), if_neg (by omega), if_neg (by omega), if_neg (by omega), if_neg (by omega), if_neg (by omega), if_pos h]
theorem aP_in {lo hi lo' hi' x : Int} (h1 : lo' ≤ lo) (h2 : hi ≤ hi') (h : aP M T lo hi x) : aP M T lo' hi' x := by
  obtain ⟨m, a, b, c⟩ := h
  exact ⟨m, by omega, by omega, c⟩
theorem aP_dk {a b a2 b2 x : Int} (hT : aT T z) (h1 : 1 ≤ a) (hb : b ≤ a2) (h2 : b2 ≤ z) (p : aP M T a b x) (q : aP M T a2 b2 x) : False := by
  obtain ⟨m, m0, m1, m2, m3, -⟩ := p
  obtain ⟨n, n0, n1, n2, n3, -⟩ := q
  have := hT m n (by omega) (by omega) (by omega) (by omega) m2 n2 (by rw [← m3, n3])
  omega
theorem uL_c {U : Int → (Int → Prop) → Prop} {a : Int} {l : List Int} {D D1 : Int → Prop} (h1 : ∀ x, D1 x → D x) (h2 : U a D1) (h3 : uL U l (fun x => D x ∧ ¬ D1 x)) : uL U (a :: l) D := ⟨D1, _, h1, fun _ hx => hx, h2, h3⟩
/-- a chain -/
theorem e_h_un {D : Int → Prop} {L : Nat} {v k w tt : Int} {E : Int → Prop} (hT : aT T z) (hE : ∀ f, E f → f = 0)
    (sub : ∀ r1 a f a' b', e_c S D r1 a f → ht T L a' b' f tt (w - 1) → 1 ≤ a' → b' ≤ z → r1 ≤ k → ∀ m : Nat, a < m → un M m a (aP M T a' b')) {kd : Int} :
    ∀ (l : List (Int × Int)) (acc f r lo0 lo hi : Int) (n : Nat), e_h M T S D kd l acc f r → htc T (fun a b f => ht T L a b f tt (w - 1)) E v n lo hi (t_nx T f) → 1 ≤ lo0 → lo0 ≤ lo → lo ≤ hi → hi ≤ z → r ≤ k → (∀ m : Nat, acc < m → un M m acc (aP M T lo0 lo)) → ∀ m : Nat, r < m → un M m r (aP M T lo0 hi)
  | [], acc, f, r, lo0, lo, hi, n, ⟨h1, h2⟩, hc, hl0, hl, hlh, hz, hk, hv, m, hm => by
    subst h1
    exact un_mo (fun x => aP_in (Int.le_refl _) hlh) (hv m hm)
  | (r1, f1) :: l, acc, f, r, lo0, lo, hi, n, ⟨h1, h2, h3, h4⟩, hc, hl0, hl, hlh, hz, hk, hv, m, hm => by
    cases n with
    | zero =>
      have := hE _ hc
      omega
    | succ n =>
      obtain ⟨a, b, c1, c2, c3⟩ := hc
      rw [h1.1] at c2 c3
      have lb : a < b := by have := ht_in c2; omega
      have hr1 : r1 ≤ r := by
        clear h3 c3 c2 sub hv hE
        have : ∀ (l : List (Int × Int)) (acc f r : Int), e_h M T S D kd l acc f r → acc ≤ r := by
          intro l
          induction l with
          | nil => intro acc f r h; exact Int.le_of_eq h.1
          | cons x l ih =>
            intro acc f r h
            have := ih _ _ _ h.2.2.2
            have := h.2.1
            omega
        exact this _ _ _ _ h4
      have st : ∀ m : Nat, r1 < m → un M m r1 (aP M T lo0 b) := by
        intro m hm
        cases m with
        | zero => omega
        | succ m =>
          have v1 := hv m (by omega)
          have v1' : un M m (M 97 r1) (aP M T lo0 lo) := by rw [h2.1]; exact v1
          have two : (M 96 r1 = 8 ∨ M 96 r1 = 9 ∨ M 96 r1 = 10 ∨ M 96 r1 = 12) → e_c S D r1 (M 98 r1) f1 → un M (m + 1) r1 (aP M T lo0 b) := fun hk8 q2 => by
            have u2 := sub r1 _ f1 a b q2 c2 (by omega) (by omega) (by omega) m (by have := q2.2.2; omega)
            refine ⟨⟨by omega, fun q => by omega⟩, ?_⟩
            rw [pa_8 hk8]
            refine uL_c (fun x hx => ⟨aP_in (Int.le_refl _) (by omega) hx, fun q => by omega⟩) v1' (uL_c (D1 := aP M T a b) (fun x hx => ⟨⟨aP_in (by omega) (Int.le_refl _) hx, fun q => by omega⟩, fun q => aP_dk hT hl0 (by omega) (by omega) q hx⟩) u2 trivial)
          rcases h3 with ⟨_, q1, q2⟩ | ⟨_, _, q1, q2⟩ | ⟨_, _, q1, _, q2⟩ | ⟨_, q1, q2⟩
          · exact two (by omega) q2
          · exact two (by omega) q2
          · refine ⟨⟨by omega, fun q => by omega⟩, ?_⟩
            rw [pa_6 (by omega)]
            exact uL_c (fun x hx => ⟨aP_in (Int.le_refl _) (by omega) hx, fun q => by omega⟩) v1' trivial
          · exact two (by omega) q2
      exact e_h_un hT hE sub l r1 f1 r lo0 b hi n h4 c3 hl0 (by omega) (by omega) hz hk st m hm
theorem e_a_un {D : Int → Prop} {L : Nat} {v r tt w : Int} {E : Int → Prop} {P : Int → Prop} (hT : aT T z) (hE : ∀ f, E f → f = 0) {m : Nat} (sub : ∀ a f a' b', e_c S D r a f → ht T L a' b' f tt w → 1 ≤ a' → b' ≤ z → un M m a (aP M T a' b')) : ∀ (k : Nat) (b f lo hi : Int) (n : Nat), e_a M T S D r k b f → htc T (fun a b f => ht T L a b f tt w) E v n lo hi f → 1 ≤ lo → hi ≤ z → (∀ x, aP M T lo hi x → P x) → ∀ Q : Int → Prop, (∀ x, aP M T lo hi x → Q x) → uL (un M m) (k_agl M b k) Q
  | 0, _, _, _, _, _, _, _, _, _, _, _, _ => trivial
  | k + 1, b, f, lo, hi, n, ⟨h1, h2⟩, hc, hlo, hz, hP, Q, hQ => by
    cases n with
    | zero =>
      have := hE _ hc
      have := h1.1.2
      omega
    | succ n =>
      obtain ⟨a', b', c1, c2, c3⟩ := hc
      have lb : a' < b' := by have := ht_in c2; omega
      exact uL_c (D1 := aP M T a' b') (fun x hx => hQ x (aP_in (by omega) (by omega) hx)) (sub _ f a' b' h1 c2 (by omega) (by omega)) (e_a_un (P := P) hT hE sub k (b + 1) (t_nx T f) b' hi n h2 c3 (by omega) hz (fun x hx => hP x (aP_in (by omega) (Int.le_refl _) hx)) _ (fun x hx => ⟨hQ x (aP_in (by omega) (Int.le_refl _) hx), fun q => aP_dk hT (by omega) (Int.le_refl _) hz q hx⟩))
theorem e_un (hS : ∀ D r v, S D r v → e_s M T S D r v) (hT : aT T z) : ∀ (N : Nat) (r v : Int) (D : Int → Prop) (L : Nat) (lo hi t w : Int), r < N → S D r v → 1 ≤ v → v < z → (∀ x, D x → 1 ≤ x ∧ x < z) → 1 ≤ lo → hi ≤ z → ht T L lo hi v t w → ∀ m : Nat, r < m → un M m r (aP M T lo hi) := by
  intro N
  induction N with
  | zero =>
    intro r v D L lo hi t w hr hs _ _ _ _ _ _ m hm
    have := (hS D r v hs).1
    omega
  | succ N ih =>
    intro r v D L lo hi t w hr hs v0 v1 hD hlo hhi hh m hm
    obtain ⟨q1, q2, q3⟩ := hS D r v hs
    cases m with
    | zero => omega
    | succ m =>
    cases L with
    | zero => exact hh.elim
    | succ L =>
    obtain ⟨i1, i2, n, hn, hc⟩ := hh
    have sub : ∀ r1 a f a' b' t1 w1, e_c S D r1 a f → ht T L a' b' f t1 w1 → 1 ≤ a' → b' ≤ z → r1 ≤ r → ∀ m : Nat, a < m → un M m a (aP M T a' b') := fun r1 a f a' b' t1 w1 hc hh ha hb h3 m hm => ih a f (e_x D f) L a' b' t1 w1 (by have := hc.2.2; omega) hc.2.1 hc.1.2 (hD f hc.1.1).2 (fun x hx => hD x hx.1) ha hb hh m hm
    have own : c_ac (T (v * 9 + 0)) → aP M T lo hi r := fun hk => ⟨v, i1.1, i1.2, hk, q2, q1.2.2, q1.2.1⟩
    have off : ∀ {a b x : Int}, c_ac (T (v * 9 + 0)) → 1 ≤ a → b ≤ z → (v < a ∨ b ≤ v) → aP M T a b x → x ≠ r := fun {a b x} hk ha hb hv p e => by
      obtain ⟨m, m0, m1, m2, m3, -⟩ := p
      rw [e, q2] at m3
      have := hT v m v0 v1 (by omega) (by omega) hk m2 m3
      omega
    have one : ∀ a, e_c S D r a (T (v * 9 + 5)) → n = 1 → (M 96 r = 6 ∨ M 96 r = 7 ∨ M 96 r = 15 ∨ M 96 r = 16) → a = M 97 r → un M (m + 1) r (aP M T lo hi) := fun a ha n1 hk e => by
      subst n1
      obtain ⟨a', b', c1, c2, c3⟩ := hc
      refine ⟨⟨by omega, fun q => by omega⟩, ?_⟩
      rw [pa_6 (by omega), ← e]
      exact uL_c (fun x hx => ⟨aP_in (by omega) (by omega) hx, fun q => by omega⟩) (sub r a _ a' b' _ _ ha c2 (by omega) (by omega) (Int.le_refl _) m (by have := ha.2.2; omega)) trivial
    have leaf : (M 96 r = 0 ∨ M 96 r = 1 ∨ M 96 r = 5) → un M (m + 1) r (aP M T lo hi) := fun hk => ⟨⟨by omega, fun q => by omega⟩, by rw [pa_0 hk]; trivial⟩
    rcases q3 with q | q | q | q | q | q | q | q | ⟨k, r0, l, a, b, c, d⟩ | q | q | q | ⟨a, b, c, lo', hi', x, d, e, f, g⟩
    · exact leaf (.inl q.1)
    · exact leaf (.inr (.inl q.1))
    · have n1 : n = 1 := by unfold h_n at hn; omega
      subst n1
      obtain ⟨a', b', c1, c2, c3⟩ := hc
      have hk : c_ac (T (v * 9 + 0)) := .inl q.2.1
      refine ⟨⟨by omega, fun _ => own hk⟩, ?_⟩
      rw [pa_2 q.1]
      exact uL_c (fun x hx => ⟨aP_in (by omega) (by omega) hx, fun _ => off hk (by omega) (by omega) c1.2.2 hx⟩) (sub r _ _ a' b' _ _ q.2.2.2.2 c2 (by omega) (by omega) (Int.le_refl _) m (by have := q.2.2.2.2.2.2; omega)) trivial
    · have n1 : n = 2 := by unfold h_n at hn; omega
      subst n1
      obtain ⟨a', b', c1, c2, a2, b2, d1, d2, d3⟩ := hc
      have lb : a' < b' := by have := ht_in c2; omega
      have hk : c_ac (T (v * 9 + 0)) := .inr q.2.1
      refine ⟨⟨by omega, fun _ => own hk⟩, ?_⟩
      rw [pa_3 q.1]
      exact uL_c (fun x hx => ⟨aP_in (by omega) (by omega) hx, fun _ => off hk (by omega) (by omega) c1.2.2 hx⟩) (sub r _ _ a' b' _ _ q.2.2.2.2.1 c2 (by omega) (by omega) (Int.le_refl _) m (by have := q.2.2.2.2.1.2.2; omega)) (uL_c (D1 := aP M T a2 b2) (fun x hx => ⟨⟨aP_in (by omega) (by omega) hx, fun _ => off hk (by omega) (by omega) d1.2.2 hx⟩, fun p => aP_dk hT (by omega) d1.1 (by omega) p hx⟩) (sub r _ _ a2 b2 _ _ q.2.2.2.2.2 d2 (by omega) (by omega) (Int.le_refl _) m (by have := q.2.2.2.2.2.2.2; omega)) trivial)
    · obtain ⟨e1, e2, e3, e4, e6, e7, e8, e9⟩ := q
      refine ⟨⟨by omega, fun q => by omega⟩, ?_⟩
      rw [pa_4 e1]
      exact e_a_un (P := fun _ => True) hT (E := h_e (T (v * 9 + 0))) (fun f hf => hf (.inl e2)) (fun a f a' b' ha hb hl hz => sub r a f a' b' _ _ ha hb hl hz (Int.le_refl _) m (by have := ha.2.2; omega)) _ _ _ lo hi n e9 hc hlo hhi (fun _ _ => trivial) _ (fun x hx => ⟨hx, fun q => by omega⟩)
    · exact leaf (.inr (.inr q.1))
    · exact one _ q.2.2 (by unfold h_n at hn; omega) (by omega) rfl
    · exact one _ q.2.2 (by unfold h_n at hn; omega) (by omega) rfl
    · have hk3 : k = 11 ∨ k = 12 ∨ k = 13 := by
        cases l with
        | nil => exact absurd rfl b
        | cons x l =>
          obtain ⟨x1, x2⟩ := x
          obtain ⟨_, _, d3, _⟩ := d
          omega
      have n2 : 2 ≤ n := by unfold h_n at hn; omega
      obtain ⟨n', rfl⟩ : ∃ n', n = n' + 1 := ⟨n - 1, by omega⟩
      obtain ⟨a', b', c1, c2, c3⟩ := hc
      have lb : a' < b' := by have := ht_in c2; omega
      have k1 : h_c (T (v * 9 + 0)) (n' + 1) = (n' : Int) + 1 := by unfold h_c; rw [if_neg (by omega), if_pos (by omega)]; rfl
      have k2 : h_k (T (v * 9 + 0)) = 1 := by unfold h_k; rw [if_neg (by omega), if_neg (by omega), if_neg (by omega), if_neg (by omega)]
      rw [k1, k2] at c2 c3
      exact un_mo (fun x => aP_in c1.1 (Int.le_refl _)) (e_h_un (M := M) (T := T) (S := S) (D := D) (L := L) (v := v) (k := r) (w := w) (tt := t - (n' + 1)) (E := h_e (T (v * 9 + 0))) hT (fun f hf => hf (.inr (by omega))) (fun r1 a f a' b' ha hb hl hz h2 m hm => sub r1 a f a' b' _ _ ha hb hl hz h2 m hm) l r0 (T (v * 9 + 5)) r a' b' hi n' d c3 (by omega) (by omega) c1.2.1 hhi (Int.le_refl _) (fun m hm => sub r r0 _ a' b' _ _ c c2 (by omega) (by omega) (Int.le_refl _) m hm) (m + 1) hm)
    · have n1 : n = 2 := by unfold h_n at hn; omega
      subst n1
      obtain ⟨a', b', c1, c2, a2, b2, d1, d2, d3⟩ := hc
      have lb : a' < b' := by have := ht_in c2; omega
      refine ⟨⟨by omega, fun z => by omega⟩, ?_⟩
      rw [pa_13 q.1]
      exact uL_c (fun x hx => ⟨aP_in (by omega) (by omega) hx, fun z => by omega⟩) (sub r _ _ a' b' _ _ q.2.2.2.2.1 c2 (by omega) (by omega) (Int.le_refl _) m (by have := q.2.2.2.2.1.2.2; omega)) (uL_c (D1 := aP M T a2 b2) (fun x hx => ⟨⟨aP_in (by omega) (by omega) hx, fun z => by omega⟩, fun p => aP_dk hT (by omega) d1.1 (by omega) p hx⟩) (sub r _ _ a2 b2 _ _ q.2.2.2.2.2 d2 (by omega) (by omega) (Int.le_refl _) m (by have := q.2.2.2.2.2.2.2; omega)) trivial)
    · have n1 : n = 4 := by unfold h_n at hn; omega
      subst n1
      obtain ⟨a1, b1, c1, d1, a2, b2, c2, d2, a3, b3, c3, d3, a4, b4, c4, d4, _⟩ := hc
      have l1 : a1 < b1 := by have := ht_in d1; omega
      have l2 : a2 < b2 := by have := ht_in d2; omega
      have l3 : a3 < b3 := by have := ht_in d3; omega
      obtain ⟨e1, e2, e3, e4, e5, e6, e7, e8⟩ := q
      refine ⟨⟨by omega, fun z => by omega⟩, ?_⟩
      rw [pa_14 e1]
      exact uL_c (D1 := aP M T a1 b1) (fun x hx => ⟨aP_in (by omega) (by omega) hx, fun z => by omega⟩) (sub r _ _ a1 b1 _ _ e5 d1 (by omega) (by omega) (Int.le_refl _) m (by have := e5.2.2; omega)) (uL_c (D1 := aP M T a2 b2) (fun x hx => ⟨⟨aP_in (by omega) (by omega) hx, fun z => by omega⟩, fun p => aP_dk hT (by omega) (by omega) (by omega) p hx⟩) (sub r _ _ a2 b2 _ _ e6 d2 (by omega) (by omega) (Int.le_refl _) m (by have := e6.2.2; omega)) (uL_c (D1 := aP M T a3 b3) (fun x hx => ⟨⟨⟨aP_in (by omega) (by omega) hx, fun z => by omega⟩, fun p => aP_dk hT (by omega) (by omega) (by omega) p hx⟩, fun p => aP_dk hT (by omega) (by omega) (by omega) p hx⟩) (sub r _ _ a3 b3 _ _ e7 d3 (by omega) (by omega) (Int.le_refl _) m (by have := e7.2.2; omega)) (uL_c (D1 := aP M T a4 b4) (fun x hx => ⟨⟨⟨⟨aP_in (by omega) (by omega) hx, fun z => by omega⟩, fun p => aP_dk hT (by omega) (by omega) (by omega) p hx⟩, fun p => aP_dk hT (by omega) (by omega) (by omega) p hx⟩, fun p => aP_dk hT (by omega) (by omega) (by omega) p hx⟩) (sub r _ _ a4 b4 _ _ e8 d4 (by omega) (by omega) (Int.le_refl _) m (by have := e8.2.2; omega)) trivial)))
    · exact one _ q.2.2 (by unfold h_n at hn; omega) (by omega) rfl
    · exact one _ c (by unfold h_n at hn; omega) (by omega) rfl
end
/-- the body of function g -/
theorem fR_un {M : Nat → Int → Int} {g z : Int} {T F : Int → Int} (h : fR g (mf g M) T F z) : ∃ D : Int → Prop, (∀ x, D x → 700 * g ≤ x ∧ x < 700 * (g + 1)) ∧ ∀ m : Nat, M 95 g < m → un M m (M 95 g) D := by
  obtain ⟨N, L, P, x, a1, b, c, d, ⟨e1, e2, e3⟩, ⟨g1, ⟨tt, w', x1, x2, x3, x4, x5, x6⟩⟩, S, g2, g3⟩ := h
  rw [mf_ne (by decide)] at g2
  obtain ⟨p1, p2, p3, p4, p5, p6, p7⟩ := mf_c (f := g) (M := M)
  refine ⟨aP (mf g M) T 1 z, fun x hx => ?_, fun m hm => ?_⟩
  · obtain ⟨m, -, -, -, -, q1, q2⟩ := hx
    omega
  · have u := e_un g3 x4 ((M 95 g).toNat + 1) (M 95 g) (F 10) _ 60 1 z tt w' (by omega) g2 (by omega) (by omega) (fun x hx => ?_) (Int.le_refl _) (Int.le_refl _) x1 m hm
    · have e : ∀ (L : Nat) (r : Int) (D : Int → Prop), un (mf g M) L r D → un M L r D := by
        intro L
        induction L with
        | zero => intro r D h; exact h
        | succ L ih =>
          have ul : ∀ (l : List Int) (D : Int → Prop), uL (un (mf g M) L) l D → uL (un M L) l D := by
            intro l
            induction l with
            | nil => intro D h; trivial
            | cons a l il => intro D ⟨D1, D2, h1, h2, h3, h4⟩; exact ⟨D1, D2, h1, h2, ih _ _ h3, il _ h4⟩
          have ea : ∀ (n : Nat) (a : Int), k_agl (mf g M) a n = k_agl M a n := by
            intro n
            induction n with
            | zero => intro a; rfl
            | succ n il => intro a; unfold k_agl; rw [il, mf_ne (by decide)]
          intro r D h
          unfold un k_pa at h ⊢
          rw [ea, mf_ne (x := 96) (by decide), mf_ne (x := 97) (by decide), mf_ne (x := 98) (by decide), mf_ne (x := 99) (by decide), mf_ne (x := 100) (by decide), mf_ne (x := 101) (by decide)] at h
          exact ⟨h.1, ul _ _ h.2⟩
      exact e _ _ _ u
    · unfold e_D at hx
      omega

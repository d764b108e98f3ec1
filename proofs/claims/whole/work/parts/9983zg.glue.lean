/-! THE REFERENCE'S TABLES are such as check needs: from what both sides have in common -/
section
variable {M : Nat → Int → Int} {T : Int → Int} {lo hi : Int}
theorem tmR_in : ∀ {L : List z_t} {b : Int}, tmR M b L → (∀ t ∈ L, z_tk t) → ∀ i, b ≤ i → i < b + L.length → -999 ≤ M 104 i ∧ M 104 i ≤ 999
  | [], b, _, _, i, h1, h2 => by rw [List.length_nil] at h2; omega
  | t :: l, b, ⟨a1, _, _, a4⟩, hk, i, h1, h2 => by
    by_cases q : i = b
    · subst q
      rw [a1]
      exact (hk t List.mem_cons_self).1
    · rw [List.length_cons] at h2
      exact tmR_in a4 (fun u hu => hk u (List.mem_cons_of_mem _ hu)) i (by omega) (by omega)
theorem vx_Q {x a c : Int} {L : List z_t} (h30 : M 81 30 ≤ 4500) (h34 : M 81 34 ≤ 2340) (hlo : 1 ≤ lo) (hhi : hi ≤ 500) (hq : ixQ M x a L) (hc : ixC T lo hi c L) (hk : ∀ t ∈ L, z_tk t) : vx M x := by
  obtain ⟨⟨q1, q2, q3⟩, q4, q5, q6⟩ := hq
  have hl : (L.length : Int) ≤ 500 := by
    by_cases e : L = []
    · rw [e, List.length_nil]; omega
    · have := ixC_len hlo hc e
      omega
  refine ⟨by omega, by omega, fun i i0 i1 => ?_⟩
  rw [q2] at i1
  exact tmR_in q3 hk i i0 i1
theorem vp_Q (h30 : M 81 30 ≤ 4500) (h34 : M 81 34 ≤ 2340) (h38 : M 81 38 ≤ 1800) (hlo : 1 ≤ lo) (hhi : hi ≤ 500) : ∀ {L : List z_p} {p c : Int}, psQ M p L → psC T lo hi c L → (∀ y ∈ L, z_pk y) → vp M p L.length
  | [], p, c, _, _, _, i, i0, i1 => by rw [List.length_nil] at i1; omega
  | x :: l, p, c, ⟨⟨a1, a2, a3, a4⟩, a5⟩, ⟨_, _, b3, b4, b5⟩, hk, i, i0, i1 => by
    have k := hk x List.mem_cons_self
    by_cases q : i = p
    · subst q
      exact ⟨by omega, by rw [a3]; exact k.2.2.2.2, vx_Q h30 h34 hlo hhi a2 b3 k.1.1, vx_Q h30 h34 hlo hhi a4 b4 k.2.1.1⟩
    · rw [List.length_cons] at i1
      exact vp_Q h30 h34 h38 hlo hhi a5 b5 (fun u hu => hk u (List.mem_cons_of_mem _ hu)) i (by omega) (by omega)
theorem vt_Q {t c : Int} {x : z_T} (h30 : M 81 30 ≤ 4500) (h34 : M 81 34 ≤ 2340) (h38 : M 81 38 ≤ 1800) (h42 : M 81 42 ≤ 1440) (hlo : 1 ≤ lo) (hhi : hi ≤ 500) (hq : tyQ M t x) (hc : tyC T lo hi c x) (hk : z_Tk x) : vt M t := by
  obtain ⟨a1, a2, a3, a4, a5, a6⟩ := hq
  refine ⟨by omega, by rw [a2]; exact a3, fun z => ?_, fun z => ?_⟩
  · rw [a2] at z
    have k := hk.1 z
    rcases hc.2 with c | ⟨c1, c2, c3⟩ | ⟨c1, c2, c3⟩ | c
    · omega
    · exact vx_Q h30 h34 hlo hhi (a4 z) c3 k.1.1
    · exact vx_Q h30 h34 hlo hhi (a4 z) c3 k.1.1
    · omega
  · rw [a2] at z
    obtain ⟨k1, k2, k3, k4⟩ := hk.2 z
    obtain ⟨b1, b2⟩ := a5 z
    have hps : psC T lo hi (T (c * 9 + 5)) x.2.2.2.2 := by
      rcases hc.2 with c | c | c | c
      · omega
      · omega
      · omega
      · exact c.2.2.2
    have v := vp_Q h30 h34 h38 hlo hhi b2 hps k2
    refine ⟨by rw [b1]; exact (w_w_pos k1).2, ?_, by omega, by rw [a6, Int.toNat_natCast]; exact v⟩
    have : x.2.2.2.2.length ≠ 0 := fun q => k3 (List.eq_nil_of_length_eq_zero q)
    have := (v (M 116 t) (Int.le_refl _) (by omega)).1
    omega
end
section
variable {M : Nat → Int → Int} {T : Int → Int} {z : Int} {S : e_S}
/-- a chain: from what its first operand needs to what it needs itself -/
theorem e_h_vn {D : Int → Prop} {L : Nat} {v k w tt : Int} {E : Int → Prop} (hE : ∀ f, E f → f = 0) (hr : ∀ r, r < M 81 21 → r < 6300) (hw : 1 ≤ w)
    (sub : ∀ r1 a f a' b' t', e_c S D r1 a f → ht T L a' b' f tt (w - 1) → 1 ≤ a' → tt ≤ t' → r1 ≤ k → ∀ m : Nat, a < m → vn M m a t' (w - 1)) {kd : Int} :
    ∀ (l : List (Int × Int)) (acc f r ta lo hi : Int) (n : Nat), e_h M T S D kd l acc f r → htc T (fun a b f => ht T L a b f tt (w - 1)) E v n lo hi (t_nx T f) → 1 ≤ lo → r ≤ k → acc ≤ r → tt ≤ ta → 1 ≤ ta → (∀ m : Nat, acc < m → vn M m acc ta w) → (n = l.length ∧ ∀ m : Nat, r < m → vn M m r (ta + l.length) w)
  | [], acc, f, r, ta, lo, hi, n, ⟨h1, h2⟩, hc, hlo, hk, har, hta, ht1, hv => by
    subst h1
    cases n with
    | zero => exact ⟨rfl, fun m hm => by rw [List.length_nil, show ta + ((0 : Nat) : Int) = ta by omega]; exact hv m hm⟩
    | succ n =>
      obtain ⟨a, b, c1, c2, c3⟩ := hc
      rw [h2] at c2
      have := ht_in c2
      omega
  | (r1, f1) :: l, acc, f, r, ta, lo, hi, n, ⟨h1, h2, h3, h4⟩, hc, hlo, hk, har, hta, ht1, hv => by
    cases n with
    | zero =>
      have := hE _ hc
      omega
    | succ n =>
      obtain ⟨a, b, c1, c2, c3⟩ := hc
      rw [h1.1] at c2 c3
      have hr1 : r1 ≤ r := by
        clear h3 c3 c2 sub hv hE
        have : ∀ (l : List (Int × Int)) (acc f r : Int), e_h M T S D kd l acc f r → acc ≤ r := by
          intro l
          induction l with
          | nil => intro acc f r h; exact Int.le_of_eq h.1
          | cons x l ih =>
            intro acc f r h
            have := ih _ _ _ h.2.2.2
            have := h.2.1
            omega
        exact this _ _ _ _ h4
      have st : ∀ m : Nat, r1 < m → vn M m r1 (ta + 1) w := by
        intro m hm
        cases m with
        | zero => omega
        | succ m =>
          have v1 := hv m (by omega)
          refine ⟨⟨by omega, hr r1 h2.2.2.2.1⟩, by omega, ?_⟩
          rw [h2.1, show ta + 1 - 1 = ta by omega]
          rcases h3 with ⟨_, q1, q2⟩ | ⟨_, _, q1, q2⟩ | ⟨_, _, q1, _, q2⟩ | ⟨_, q1, q2⟩
          · exact .inr (.inr (.inr (.inr (.inr (.inr (.inr (.inl ⟨by omega, v1, sub r1 _ f1 a b ta q2 c2 (by omega) hta (by omega) m (by have := q2.2.2; omega)⟩)))))))
          · exact .inr (.inr (.inr (.inr (.inr (.inr (.inr (.inl ⟨by omega, v1, sub r1 _ f1 a b ta q2 c2 (by omega) hta (by omega) m (by have := q2.2.2; omega)⟩)))))))
          · exact .inr (.inr (.inr (.inr (.inr (.inr (.inr (.inr (.inl ⟨q1, q2, v1⟩))))))))
          · exact .inr (.inr (.inr (.inr (.inr (.inr (.inr (.inl ⟨by omega, v1, sub r1 _ f1 a b ta q2 c2 (by omega) hta (by omega) m (by have := q2.2.2; omega)⟩)))))))
      have lb : a < b := by have := ht_in c2; omega
      obtain ⟨g1, g2⟩ := e_h_vn hE hr hw sub l r1 f1 r (ta + 1) b hi n h4 c3 (by omega) hk hr1 (by omega) (by omega) st
      exact ⟨by rw [List.length_cons, g1], fun m hm => by rw [List.length_cons, show ta + ((l.length + 1 : Nat) : Int) = ta + 1 + l.length by omega]; exact g2 m hm⟩
theorem e_a_vn {D : Int → Prop} {L : Nat} {v r tt w : Int} {E : Int → Prop} (hE : ∀ f, E f → f = 0) (sub : ∀ a f a' b', e_c S D r a f → ht T L a' b' f tt w → 1 ≤ a' → ∀ m : Nat, a < m → vn M m a tt w) : ∀ (k : Nat) (b f lo hi : Int) (n : Nat), e_a M T S D r k b f → htc T (fun a b f => ht T L a b f tt w) E v n lo hi f → 1 ≤ lo → ∀ i : Int, 0 ≤ i → i < k → (0 ≤ M 118 (b + i) ∧ M 118 (b + i) < r) ∧ ∀ m : Nat, M 118 (b + i) < m → vn M m (M 118 (b + i)) tt w
  | 0, _, _, _, _, _, _, _, _, i, i0, i1 => by omega
  | k + 1, b, f, lo, hi, n, ⟨h1, h2⟩, hc, hlo, i, i0, i1 => by
    cases n with
    | zero =>
      have := hE _ hc
      have := h1.1.2
      omega
    | succ n =>
      obtain ⟨a', b', c1, c2, c3⟩ := hc
      by_cases hi0 : i = 0
      · subst hi0
        rw [Int.add_zero]
        exact ⟨h1.2.2, sub _ f a' b' h1 c2 (by omega)⟩
      · have lb : a' < b' := by have := ht_in c2; omega
        have q := e_a_vn hE sub k (b + 1) (t_nx T f) b' hi n h2 c3 (by omega) (i - 1) (by omega) (by omega)
        rw [show b + 1 + (i - 1) = b + i by omega] at q
        exact q
theorem e_i_vx {lo hi : Int} (h30 : M 81 30 ≤ 4500) (h34 : M 81 34 ≤ 2340) (hlo : lo < hi → 1 ≤ lo ∧ hi ≤ 500) : ∀ (n : Nat) (x f : Int), e_i M T lo hi n x f → ∀ i : Int, 0 ≤ i → i < n → vx M (x + i)
  | 0, _, _, _, i, i0, i1 => by omega
  | n + 1, x, f, ⟨h1, ⟨t, l, a, b, c, d⟩, h2⟩, i, i0, i1 => by
    have q := hlo (by omega)
    by_cases hi0 : i = 0
    · subst hi0
      rw [Int.add_zero]
      exact vx_Q h30 h34 q.1 q.2 a b d
    · rw [show x + i = x + 1 + (i - 1) by omega]
      exact e_i_vx h30 h34 hlo n (x + 1) _ h2 (i - 1) (by omega) (by omega)
theorem e_vn (hS : ∀ D r v, S D r v → e_s M T S D r v) (hz : z ≤ 500) (h21 : M 81 21 ≤ 6300) (h48 : M 81 48 ≤ 2700) (h30 : M 81 30 ≤ 4500) (h34 : M 81 34 ≤ 2340) (h38 : M 81 38 ≤ 1800) (h42 : M 81 42 ≤ 1440) (hpl : ∀ n, 1 ≤ n → n < z → T (n * 9 + 0) = 5 → 0 ≤ T (n * 9 + 1)) : ∀ (N : Nat) (r v : Int) (D : Int → Prop) (L : Nat) (lo hi t w : Int), r < N → S D r v → 1 ≤ v → v < z → (∀ x, D x → 1 ≤ x ∧ x < z) → 1 ≤ lo → ht T L lo hi v t w → ∀ m : Nat, r < m → vn M m r t w := by
  intro N
  induction N with
  | zero =>
    intro r v D L lo hi t w hr hs _ _ _ _ _ m hm
    have := (hS D r v hs).1
    omega
  | succ N ih =>
    intro r v D L lo hi t w hr hs v0 v1 hD hlo hh m hm
    obtain ⟨q1, q2, q3⟩ := hS D r v hs
    cases m with
    | zero => omega
    | succ m =>
    cases L with
    | zero => exact hh.elim
    | succ L =>
    obtain ⟨i1, i2, n, hn, hc⟩ := hh
    have sub : ∀ r1 a f a' b' t1 w1 t' w', e_c S D r1 a f → ht T L a' b' f t1 w1 → 1 ≤ a' → t1 ≤ t' → w1 ≤ w' → r1 ≤ r → ∀ m : Nat, a < m → vn M m a t' w' := fun r1 a f a' b' t1 w1 t' w' hc hh ha h1 h2 h3 m hm => ih a f (e_x D f) L a' b' t' w' (by have := hc.2.2; omega) hc.2.1 hc.1.2 (hD f hc.1.1).2 (fun x hx => hD x hx.1) ha (ht_mono (Nat.le_refl _) (Int.le_refl _) (Int.le_refl _) h1 h2 hh) m hm
    refine ⟨by omega, i2, ?_⟩
    have one : ∀ a, e_c S D r a (T (v * 9 + 5)) → (T (v * 9 + 0) = 3 ∨ T (v * 9 + 0) = 7 ∨ T (v * 9 + 0) = 8 ∨ T (v * 9 + 0) = 9) → vn M m a (t - 1) w := fun a ha hk => by
      have n1 : n = 1 := by unfold h_n at hn; omega
      subst n1
      obtain ⟨a', b', c1, c2, c3⟩ := hc
      have k1 : h_c (T (v * 9 + 0)) 1 = 1 := by unfold h_c; rw [if_neg (by omega), if_neg (by omega)]
      have k2 : h_k (T (v * 9 + 0)) = 1 := by unfold h_k; rw [if_neg (by omega), if_neg (by omega), if_neg (by omega), if_neg (by omega)]
      rw [k1, k2] at c2
      exact sub r a _ a' b' _ _ _ _ ha c2 (by omega) (by omega) (by omega) (Int.le_refl _) m (by have := ha.2.2; omega)
    rcases q3 with q | q | q | q | q | q | q | q | ⟨k, r0, l, a, b, c, d⟩ | q | q | q | ⟨a, b, c, lo', hi', x, d, e, f, g⟩
    · exact .inl ⟨q.1, q.2.2.2⟩
    · exact .inr (.inl q.1)
    · exact .inr (.inr (.inr (.inl ⟨q.1, one _ q.2.2.2.2 (.inl q.2.1)⟩)))
    · have n1 : n = 2 := by unfold h_n at hn; omega
      subst n1
      obtain ⟨a', b', c1, c2, a2, b2, d1, d2, d3⟩ := hc
      have k1 : h_c (T (v * 9 + 0)) 2 = 1 := by unfold h_c; rw [if_neg (by omega), if_neg (by omega)]
      have k2 : h_k (T (v * 9 + 0)) = 2 := by unfold h_k; rw [if_neg (by omega), if_neg (by omega), if_neg (by omega), if_pos (by omega)]
      rw [k1, k2] at c2 d2
      have lb : a' < b' := by have := ht_in c2; omega
      exact .inr (.inr (.inr (.inr (.inl ⟨q.1, sub r _ _ a' b' _ _ _ _ q.2.2.2.2.1 c2 (by omega) (by omega) (by omega) (Int.le_refl _) m (by have := q.2.2.2.2.1.2.2; omega), sub r _ _ a2 b2 _ _ _ _ q.2.2.2.2.2 d2 (by omega) (by omega) (by omega) (Int.le_refl _) m (by have := q.2.2.2.2.2.2.2; omega)⟩))))
    · obtain ⟨e1, e2, e3, ⟨lo', hi', e4, e5⟩, e6, e7, e8, e9⟩ := q
      have k1 : h_c (T (v * 9 + 0)) n = 1 := by unfold h_c; rw [if_neg (by omega), if_neg (by omega)]
      have k2 : h_k (T (v * 9 + 0)) = 9 := by unfold h_k; rw [if_pos (by omega)]
      rw [k1, k2] at hc
      have hlo' : lo' < hi' → 1 ≤ lo' ∧ hi' ≤ 500 := fun q => by
        have u1 := hD _ (e4 lo' (Int.le_refl _) q)
        have u2 := hD _ (e4 (hi' - 1) (by omega) (by omega))
        omega
      refine .inr (.inr (.inr (.inr (.inr (.inl ⟨e1, by rw [q2]; exact hpl v v0 v1 e2, e6, e7, by omega, fun i i0 i1 => e_i_vx h30 h34 hlo' _ _ _ e5 i i0 (by omega), fun i i0 i1 => ?_⟩)))))
      have g := e_a_vn (E := h_e (T (v * 9 + 0))) (fun f hf => hf (.inl e2)) (fun a f a' b' ha hb hl m hm => sub r a f a' b' _ _ _ _ ha hb hl (Int.le_refl _) (Int.le_refl _) (Int.le_refl _) m hm) _ _ _ lo hi n e9 hc hlo i i0 (by omega)
      exact g.2 m (by omega)
    · exact .inr (.inr (.inl q.1))
    · exact .inr (.inr (.inr (.inr (.inr (.inr (.inl ⟨.inl q.1, one _ q.2.2 (.inr (.inl q.2.1))⟩))))))
    · exact .inr (.inr (.inr (.inr (.inr (.inr (.inl ⟨.inr (.inl q.1), one _ q.2.2 (.inr (.inr (.inl q.2.1)))⟩))))))
    · -- a chain
      have hk3 : k = 11 ∨ k = 12 ∨ k = 13 := by
        cases l with
        | nil => exact absurd rfl b
        | cons x l =>
          obtain ⟨x1, x2⟩ := x
          obtain ⟨_, _, d3, _⟩ := d
          omega
      have n2 : 2 ≤ n := by unfold h_n at hn; omega
      obtain ⟨n', rfl⟩ : ∃ n', n = n' + 1 := ⟨n - 1, by omega⟩
      obtain ⟨a', b', c1, c2, c3⟩ := hc
      have k1 : h_c (T (v * 9 + 0)) (n' + 1) = (n' : Int) + 1 := by unfold h_c; rw [if_neg (by omega), if_pos (by omega)]; rfl
      have k2 : h_k (T (v * 9 + 0)) = 1 := by unfold h_k; rw [if_neg (by omega), if_neg (by omega), if_neg (by omega), if_neg (by omega)]
      rw [k1, k2] at c2 c3
      have in2 := ht_in c2
      have g := e_h_vn (M := M) (T := T) (S := S) (D := D) (L := L) (v := v) (k := r) (w := w) (tt := t - (n' + 1)) (E := h_e (T (v * 9 + 0))) (fun f hf => hf (.inr (by omega))) (fun r h => by omega) (by omega) (fun r1 a f a' b' t' ha hb hl h1 h2 m hm => sub r1 a f a' b' _ _ _ _ ha hb hl h1 (Int.le_refl _) h2 m hm) l r0 (T (v * 9 + 5)) r (t - n') b' hi n' d c3 (by omega) (Int.le_refl _) (by have := c.2.2; omega) (by omega) (by omega) (fun m hm => sub r r0 _ a' b' _ _ _ _ c c2 (by omega) (by omega) (by omega) (Int.le_refl _) m hm)
      have g2 := g.2 (m + 1) hm
      rw [← g.1, show t - (n' : Int) + n' = t by omega] at g2
      exact g2.2.2
    · have n1 : n = 2 := by unfold h_n at hn; omega
      subst n1
      obtain ⟨a', b', c1, c2, a2, b2, d1, d2, d3⟩ := hc
      have k1 : h_c (T (v * 9 + 0)) 2 = 1 := by unfold h_c; rw [if_neg (by omega), if_neg (by omega)]
      have k2 : h_k (T (v * 9 + 0)) = 1 := by unfold h_k; rw [if_neg (by omega), if_neg (by omega), if_neg (by omega), if_neg (by omega)]
      rw [k1, k2] at c2 d2
      have lb : a' < b' := by have := ht_in c2; omega
      have wp := w_w_pos q.2.2.1
      have wi := w_w_in q.2.2.1
      exact .inr (.inr (.inr (.inr (.inr (.inr (.inr (.inr (.inr (.inl ⟨q.1, by omega, sub r _ _ a' b' _ _ _ _ q.2.2.2.2.1 c2 (by omega) (by omega) (by omega) (Int.le_refl _) m (by have := q.2.2.2.2.1.2.2; omega), sub r _ _ a2 b2 _ _ _ _ q.2.2.2.2.2 d2 (by omega) (by omega) (by omega) (Int.le_refl _) m (by have := q.2.2.2.2.2.2.2; omega)⟩)))))))))
    · have n1 : n = 4 := by unfold h_n at hn; omega
      subst n1
      obtain ⟨a1, b1, c1, d1, a2, b2, c2, d2, a3, b3, c3, d3, a4, b4, c4, d4, _⟩ := hc
      have k1 : h_c (T (v * 9 + 0)) 4 = 1 := by unfold h_c; rw [if_neg (by omega), if_neg (by omega)]
      have k2 : h_k (T (v * 9 + 0)) = 3 := by unfold h_k; rw [if_neg (by omega), if_neg (by omega), if_pos (by omega)]
      rw [k1, k2] at d1 d2 d3 d4
      have l1 : a1 < b1 := by have := ht_in d1; omega
      have l2 : a2 < b2 := by have := ht_in d2; omega
      have l3 : a3 < b3 := by have := ht_in d3; omega
      obtain ⟨e1, e2, e3, e4, e5, e6, e7, e8⟩ := q
      exact .inr (.inr (.inr (.inr (.inr (.inr (.inr (.inr (.inr (.inr (.inl ⟨e1, e4, sub r _ _ a1 b1 _ _ _ _ e5 d1 (by omega) (by omega) (by omega) (Int.le_refl _) m (by have := e5.2.2; omega), sub r _ _ a2 b2 _ _ _ _ e6 d2 (by omega) (by omega) (by omega) (Int.le_refl _) m (by have := e6.2.2; omega), sub r _ _ a3 b3 _ _ _ _ e7 d3 (by omega) (by omega) (by omega) (Int.le_refl _) m (by have := e7.2.2; omega), sub r _ _ a4 b4 _ _ _ _ e8 d4 (by omega) (by omega) (by omega) (Int.le_refl _) m (by have := e8.2.2; omega)⟩))))))))))
    · exact .inr (.inr (.inr (.inr (.inr (.inr (.inl ⟨.inr (.inr q.1), one _ q.2.2 (.inr (.inr (.inr q.2.1)))⟩))))))
    · have n1 : n = 1 := by unfold h_n at hn; omega
      subst n1
      obtain ⟨a', b', c1, c2, c3⟩ := hc
      have k1 : h_c (T (v * 9 + 0)) 1 = 2 := by unfold h_c; rw [if_pos (by omega)]
      have k2 : h_k (T (v * 9 + 0)) = 15 := by unfold h_k; rw [if_neg (by omega), if_pos (by omega)]
      rw [k1, k2] at c2
      have lh := f.1
      have u1 := hD _ (d lo' (Int.le_refl _) (by omega))
      have u2 := hD _ (d (hi' - 1) (by omega) (by omega))
      exact .inr (.inr (.inr (.inr (.inr (.inr (.inr (.inr (.inr (.inr (.inr ⟨a, vt_Q h30 h34 h38 h42 (by omega) (by omega) e f g, sub r _ _ a' b' _ _ _ _ c c2 (by omega) (by omega) (by omega) (Int.le_refl _) m (by have := c.2.2; omega)⟩))))))))))
end

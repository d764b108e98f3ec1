/-! THE SOLVER'S SPEC: states that are alike where it matters; what is kept stays so; it has one answer -/
theorem s_a_Q {S1 S2 : s_S} {T U : Int → Int} {j : Int} (hT : s_q T U) (hS : s_Q S1 S2) (j0 : 0 ≤ j) (j1 : j < S1.1) : s_a S1.2.1 j T ↔ s_a S2.2.1 j U := by
  unfold s_a
  exact ⟨fun q k a b => by rw [← hS.2.2 j k j0 j1 a (by omega), ← hT k a (by omega)]; exact q k a b, fun q k a b => by rw [hS.2.2 j k j0 j1 a (by omega), hT k a (by omega)]; exact q k a b⟩
theorem s_k_Q {T U : Int → Int} {S1 S2 S1' : s_S} (hT : s_q T U) (hS : s_Q S1 S2) (h : s_k T S1 S1') : ∃ S2', s_k U S2 S2' ∧ s_Q S1' S2' := by
  obtain ⟨hb, h⟩ := h
  have hb2 : ¬ s_b (s_t U) := fun q => hb ((s_b_q (s_t_q hT)).mpr q)
  have hg := s_g_q hT 24 (by omega)
  have h24 := s_t_q hT 24 (by omega) (by omega)
  obtain ⟨e1, e2, e3⟩ := id hS
  rcases h with ⟨g, rfl⟩ | ⟨g, j, j0, j1, ja, jn, rfl⟩ | ⟨g, h80, jn, rfl⟩
  · refine ⟨_, ⟨hb2, .inl ⟨hg ▸ g, rfl⟩⟩, e1, ?_, e3⟩
    dsimp only
    rw [h24, e2]
  · refine ⟨_, ⟨hb2, .inr (.inl ⟨hg ▸ g, j, j0, by omega, (s_a_Q (s_t_q hT) hS j0 j1).mp ja, fun i a b q => jn i a b ((s_a_Q (s_t_q hT) hS a (by omega)).mpr q), rfl⟩)⟩, e1, e2, fun i k a b c f => ?_⟩
    dsimp only at b ⊢
    rw [h24, e3 j 24 j0 j1 (by omega) (by omega), e3 i k a b c f]
  · refine ⟨_, ⟨hb2, .inr (.inr ⟨hg ▸ g, by omega, fun i a b q => jn i a (by omega) ((s_a_Q (s_t_q hT) hS a (by omega)).mpr q), rfl⟩)⟩, by dsimp only; omega, e2, fun i k a b c f => ?_⟩
    dsimp only at b ⊢
    by_cases hi : i = S1.1
    · rw [if_pos hi, if_pos (by omega)]
      exact s_t_q hT k c f
    · rw [if_neg hi, if_neg (by omega)]
      exact e3 i k a (by omega) c f
theorem s_n_Q {T U : Int → Int} {S1 S2 : s_S} (hT : s_q T U) (hS : s_Q S1 S2) (h : s_n T S1) : s_n U S2 := by
  rcases h with h | ⟨g, h80, jn⟩
  · exact .inl ((s_b_q (s_t_q hT)).mp h)
  · have e1 := hS.1
    exact .inr ⟨s_g_q hT 24 (by omega) ▸ g, by omega, fun i a b q => jn i a (by omega) ((s_a_Q (s_t_q hT) hS a (by omega)).mpr q)⟩
def s_qs : List (Int → Int) → List (Int → Int) → Prop
  | [], [] => True
  | T :: L, U :: L' => s_q T U ∧ s_qs L L'
  | _, _ => False
theorem s_qs_app : ∀ {L1 L1' L2 L2' : List (Int → Int)}, s_qs L1 L1' → s_qs L2 L2' → s_qs (L1 ++ L2) (L1' ++ L2')
  | [], [], _, _, _, h => h
  | _ :: _, _ :: _, _, _, ⟨a, b⟩, h => ⟨a, s_qs_app b h⟩
  | [], _ :: _, _, _, h, _ => h.elim
  | _ :: _, [], _, _, h, _ => h.elim
theorem s_ks_Q : ∀ {L L' : List (Int → Int)} {S1 S2 S1' : s_S}, s_qs L L' → s_Q S1 S2 → s_ks L S1 S1' → ∃ S2', s_ks L' S2 S2' ∧ s_Q S1' S2'
  | [], [], _, S2, _, _, hS, h => by cases h; exact ⟨S2, rfl, hS⟩
  | _ :: _, _ :: _, _, _, _, ⟨a, b⟩, hS, ⟨S3, c, f⟩ => by
    obtain ⟨S4, p, q⟩ := s_k_Q a hS c
    obtain ⟨S5, u, w⟩ := s_ks_Q b q f
    exact ⟨S5, ⟨S4, p, u⟩, w⟩
  | [], _ :: _, _, _, _, h, _, _ => h.elim
  | _ :: _, [], _, _, _, h, _, _ => h.elim
theorem s_ns_Q : ∀ {L L' : List (Int → Int)} {S1 S2 : s_S}, s_qs L L' → s_Q S1 S2 → s_ns L S1 → s_ns L' S2
  | [], [], _, _, _, _, h => h
  | _ :: _, _ :: _, _, _, ⟨a, _⟩, hS, .inl h => .inl (s_n_Q a hS h)
  | _ :: _, _ :: _, _, _, ⟨a, b⟩, hS, .inr ⟨S3, c, f⟩ => by
    obtain ⟨S4, p, q⟩ := s_k_Q a hS c
    exact .inr ⟨S4, p, s_ns_Q b q f⟩
  | [], _ :: _, _, _, h, _, _ => h.elim
  | _ :: _, [], _, _, h, _, _ => h.elim
theorem s_wb_Q {v n a : Int} {G H : Int → Int → Int} (hv : 0 ≤ v ∧ v < 24) (h : ∀ j k, 0 ≤ j → j < n → 0 ≤ k → k < 25 → G j k = H j k) (ha : 0 ≤ a ∧ a < n) : ∀ t : Nat, (t : Int) ≤ n → s_qs (s_wb v n G a t) (s_wb v n H a t)
  | 0, _ => trivial
  | t + 1, ht => by
    have ih := s_wb_Q hv h ha t (by omega)
    unfold s_wb
    have hb : 0 ≤ n - ((t + 1 : Nat) : Int) ∧ n - ((t + 1 : Nat) : Int) < n := by omega
    generalize n - ((t + 1 : Nat) : Int) = b at hb
    rw [h b v hb.1 hb.2 hv.1 (by omega)]
    refine s_qs_app ?_ ih
    split
    · refine ⟨fun k k0 k1 => ?_, trivial⟩
      unfold s_c
      rw [h b v hb.1 hb.2 hv.1 (by omega), h a k ha.1 ha.2 k0 k1, h a v ha.1 ha.2 hv.1 (by omega), h b k hb.1 hb.2 k0 k1]
    · trivial
theorem s_wa_Q {v n : Int} {G H : Int → Int → Int} (hv : 0 ≤ v ∧ v < 24) (h : ∀ j k, 0 ≤ j → j < n → 0 ≤ k → k < 25 → G j k = H j k) : ∀ t : Nat, (t : Int) ≤ n → s_qs (s_wa v n G t) (s_wa v n H t)
  | 0, _ => trivial
  | t + 1, ht => by
    have ih := s_wa_Q hv h t (by omega)
    unfold s_wa
    have hb : 0 ≤ n - ((t + 1 : Nat) : Int) ∧ n - ((t + 1 : Nat) : Int) < n := by omega
    generalize n - ((t + 1 : Nat) : Int) = b at hb
    rw [h b v hb.1 hb.2 hv.1 (by omega)]
    refine s_qs_app ?_ (s_qs_app ?_ ih)
    · split
      · exact ⟨fun k k0 k1 => h b k hb.1 hb.2 k0 k1, trivial⟩
      · trivial
    · split
      · exact s_wb_Q hv h hb n.toNat (by omega)
      · trivial
theorem s_Q_rf (S : s_S) : s_Q S S := ⟨rfl, rfl, fun _ _ _ _ _ _ => rfl⟩
theorem s_e_Q : ∀ (v : Nat) {S S' : s_S} {r : Int}, v ≤ 24 → 0 ≤ S.1 → s_Q S S' → s_e v S r → s_e v S' r
  | 0, S, S', r, _, _, hS, h => by
    show r = S'.2.2
    rw [← hS.2.1]
    exact h
  | v + 1, S, S', r, hv, h0, hS, h => by
    obtain ⟨e1, e2, e3⟩ := id hS
    rcases h with ⟨a, b⟩ | ⟨a, h⟩
    · exact .inl ⟨by rw [← e2]; exact a, b⟩
    · refine .inr ⟨by rw [← e2]; exact a, ?_⟩
      have hq : s_qs (s_wa v S.1 S.2.1 S.1.toNat) (s_wa v S'.1 S'.2.1 S'.1.toNat) := by
        rw [← e1]
        exact s_wa_Q (by omega) e3 _ (by omega)
      rcases h with ⟨S2, p, q⟩ | ⟨p, q⟩
      · obtain ⟨S3, u, w⟩ := s_ks_Q hq (s_Q_rf s_S0) p
        refine .inl ⟨S3, u, s_e_Q v (by omega) ?_ w q⟩
        clear q u w hq
        revert p
        generalize s_wa v S.1 S.2.1 S.1.toNat = L
        have : ∀ (L : List (Int → Int)) (A B : s_S), 0 ≤ A.1 → s_ks L A B → 0 ≤ B.1 := by
          intro L
          induction L with
          | nil => intro A B hA h; cases h; exact hA
          | cons T L ih =>
            rintro A B hA ⟨C, c1, c2⟩
            refine ih C B ?_ c2
            obtain ⟨-, h⟩ := c1
            rcases h with ⟨-, rfl⟩ | ⟨-, j, -, -, -, -, rfl⟩ | ⟨-, -, -, rfl⟩
            · exact hA
            · exact hA
            · dsimp only
              omega
        exact this L s_S0 S2 (Int.le_refl 0)
      · exact .inr ⟨s_ns_Q hq (s_Q_rf s_S0) p, q⟩
/-- tight, small, distinct -/
def s_N (S : s_S) : Prop := (0 ≤ S.1 ∧ S.1 ≤ 80) ∧ (∀ j, 0 ≤ j → j < S.1 → ¬ s_b (S.2.1 j) ∧ s_g (S.2.1 j) 24 = 1) ∧ ∀ i j, 0 ≤ i → i < j → j < S.1 → ¬ s_a S.2.1 i (S.2.1 j)
theorem s_g_mul {T U : Int → Int} {g : Int} (hg : 0 ≤ g) : ∀ n : Nat, (∀ k : Int, 0 ≤ k → k < n → T k = g * U k) → s_g T n = g * s_g U n
  | 0, _ => by show (0 : Int) = g * 0; omega
  | n + 1, h => by
    unfold s_g
    rw [s_g_mul hg n (fun k a b => h k a (by omega)), h n (by omega) (by omega), Int.gcd_mul_left, Int.natCast_mul]
    congr 1
    omega
theorem s_g_t {T : Int → Int} (hg : s_g T 24 ≠ 0) : s_g (s_t T) 24 = 1 := by
  have b1 := s_g_0 T 24
  have h1 := s_g_mul (T := T) (U := s_t T) (g := s_g T 24) b1 24 (fun k a b => by
    have hd := s_g_dvd T 24 k.toNat (by omega)
    rw [show ((k.toNat : Nat) : Int) = k by omega] at hd
    unfold s_t
    rw [if_neg hg, if_pos (by omega)]
    exact (Int.mul_ediv_cancel' hd).symm)
  have h2 : s_g T 24 * 1 = s_g T 24 * s_g (s_t T) 24 := by
    rw [Int.mul_one]
    exact h1
  exact (Int.eq_of_mul_eq_mul_left hg h2).symm
theorem s_k_N {T : Int → Int} {S S' : s_S} (hN : s_N S) (h : s_k T S S') : s_N S' := by
  obtain ⟨hb, h⟩ := h
  obtain ⟨n1, n2, n3⟩ := hN
  rcases h with ⟨-, rfl⟩ | ⟨-, j, j0, j1, ja, jn, rfl⟩ | ⟨hg, h80, jn, rfl⟩
  · exact ⟨n1, n2, n3⟩
  · have hq : ∀ i k, k < 24 → (if i = j ∧ k = 24 then min (S.2.1 j 24) (s_t T 24) else S.2.1 i k) = S.2.1 i k := fun i k a => by rw [if_neg (by omega)]
    refine ⟨n1, fun i i0 i1 => ⟨fun ⟨k, a, b, c⟩ => ?_, ?_⟩, fun a b a0 ab b1 q => ?_⟩
    · dsimp only at c i1
      by_cases hk : i = j ∧ k = 24
      · rw [if_pos hk] at c
        have h1 := (n2 j j0 j1).1
        by_cases hm : S.2.1 j 24 ≤ s_t T 24
        · exact h1 ⟨24, by omega, by omega, by omega⟩
        · exact hb ⟨24, by omega, by omega, by omega⟩
      · rw [if_neg hk] at c
        exact (n2 i i0 i1).1 ⟨k, a, b, c⟩
    · have e := s_g_mul (T := fun k => if i = j ∧ k = 24 then min (S.2.1 j 24) (s_t T 24) else S.2.1 i k) (U := S.2.1 i) (g := 1) (by omega) 24 (fun k a b => by rw [hq i k b]; omega)
      rw [Int.one_mul] at e
      dsimp only
      rw [e]
      exact (n2 i i0 i1).2
    · refine n3 a b a0 ab b1 (fun k c f => ?_)
      have := q k c f
      dsimp only at this
      rw [hq a k f, hq b k f] at this
      exact this
  · refine ⟨by dsimp only; omega, fun i i0 i1 => ?_, fun a b a0 ab b1 q => ?_⟩
    · dsimp only at i1 ⊢
      by_cases hi : i = S.1
      · have e : (fun k => if i = S.1 then s_t T k else S.2.1 i k) = s_t T := by
          funext k
          rw [if_pos hi]
        rw [e]
        exact ⟨hb, s_g_t hg⟩
      · have e : (fun k => if i = S.1 then s_t T k else S.2.1 i k) = S.2.1 i := by
          funext k
          rw [if_neg hi]
        rw [e]
        exact n2 i i0 (by omega)
    · dsimp only at b1
      by_cases hb2 : b = S.1
      · refine jn a a0 (by omega) (fun k c f => ?_)
        have := q k c f
        dsimp only at this
        rw [if_neg (by omega), if_pos hb2] at this
        exact this
      · refine n3 a b a0 ab (by omega) (fun k c f => ?_)
        have := q k c f
        dsimp only at this
        rw [if_neg (by omega), if_neg hb2] at this
        exact this
theorem s_ks_N : ∀ {L : List (Int → Int)} {S S' : s_S}, s_N S → s_ks L S S' → s_N S'
  | [], _, _, hN, h => by cases h; exact hN
  | _ :: _, _, _, hN, ⟨_, a, b⟩ => s_ks_N (s_k_N hN a) b
theorem s_N0 : s_N s_S0 := ⟨⟨Int.le_refl 0, by decide⟩, fun j j0 j1 => absurd (show j < (0 : Int) from j1) (by omega), fun i j i0 ij j1 => absurd (show j < (0 : Int) from j1) (by omega)⟩
/-- a variable that is in no row -/
theorem s_up {v : Nat} {S : s_S} {r : Int} (hv : v < 24) (hN : s_N S) (h2 : S.2.2 = 0 ∨ S.2.2 = 1) (hz : ∀ j, 0 ≤ j → j < S.1 → S.2.1 j v = 0) (h : s_e v S r) : s_e (v + 1) S r := by
  rcases h2 with h2 | h2
  · refine .inr ⟨h2, .inl ?_⟩
    obtain ⟨n1, n2, n3⟩ := hN
    have go : ∀ (t : Nat) (A : s_S), (t : Int) ≤ S.1 → A.1 = S.1 - t → A.2.2 = 0 → (∀ i k, 0 ≤ i → i < A.1 → 0 ≤ k → k < 25 → A.2.1 i k = S.2.1 i k) → ∃ B, s_ks (s_wa v S.1 S.2.1 t) A B ∧ s_Q S B := by
      intro t
      induction t with
      | zero =>
        intro A _ a1 a2 a3
        exact ⟨A, rfl, by omega, by omega, fun j k p q c f => (a3 j k p (by omega) c f).symm⟩
      | succ t ih =>
        intro A ht a1 a2 a3
        have hl : s_wa v S.1 S.2.1 (t + 1) = S.2.1 (S.1 - (t + 1 : Nat)) :: s_wa v S.1 S.2.1 t := by
          conv => lhs; unfold s_wa
          rw [hz (S.1 - (t + 1 : Nat)) (by omega) (by omega), if_pos rfl, if_neg (by omega)]
          rfl
        rw [hl]
        have hb : 0 ≤ S.1 - ((t + 1 : Nat) : Int) ∧ S.1 - ((t + 1 : Nat) : Int) < S.1 := by omega
        have ha : A.1 = S.1 - ((t + 1 : Nat) : Int) := a1
        generalize S.1 - ((t + 1 : Nat) : Int) = b at hb ha
        obtain ⟨m1, m2⟩ := n2 b hb.1 hb.2
        have ht1 : s_t (S.2.1 b) = S.2.1 b := s_t_one m2
        obtain ⟨B, q1, q2⟩ := ih (A.1 + 1, fun i k => if i = A.1 then s_t (S.2.1 b) k else A.2.1 i k, A.2.2) (by omega) (by dsimp only; omega) a2 (fun i k p q c f => by
          dsimp only at q ⊢
          by_cases hi : i = A.1
          · rw [if_pos hi, ht1, hi, ha]
          · rw [if_neg hi]
            exact a3 i k p (by omega) c f)
        refine ⟨B, ⟨_, ⟨by rw [ht1]; exact m1, .inr (.inr ⟨by omega, by omega, fun i p q y => ?_, rfl⟩)⟩, q1⟩, q2⟩
        rw [ht1] at y
        refine n3 i b p (by omega) hb.2 (fun k c f => ?_)
        rw [← a3 i k p q c (by omega)]
        exact y k c f
    obtain ⟨B, q1, q2⟩ := go S.1.toNat s_S0 (by omega) (by show (0 : Int) = _; omega) rfl (fun i k p q c f => absurd (show i < (0 : Int) from q) (by omega))
    exact ⟨B, q1, s_e_Q v (by omega) n1.1 q2 h⟩
  · refine .inl ⟨h2, ?_⟩
    cases v with
    | zero => exact (show r = S.2.2 from h).trans h2
    | succ v =>
      rcases h with ⟨-, h⟩ | ⟨h, -⟩
      · exact h
      · omega
theorem s_ups {S : s_S} {r : Int} (hN : s_N S) (h2 : S.2.2 = 0 ∨ S.2.2 = 1) (m : Nat) (hz : ∀ j (k : Nat), 0 ≤ j → j < S.1 → m ≤ k → k < 24 → S.2.1 j k = 0) (h : s_e m S r) : ∀ t : Nat, m + t ≤ 24 → s_e (m + t) S r
  | 0, _ => h
  | t + 1, ht => s_up (v := m + t) (by omega) hN h2 (fun j a b => hz j (m + t) a b (by omega) (by omega)) (s_ups hN h2 m hz h t (by omega))
/-- one answer -/
theorem s_k_1 {T : Int → Int} {S A B : s_S} (h1 : s_k T S A) (h2 : s_k T S B) : A = B := by
  obtain ⟨-, h1⟩ := h1
  obtain ⟨-, h2⟩ := h2
  rcases h1 with ⟨g, rfl⟩ | ⟨g, j, j0, j1, ja, jn, rfl⟩ | ⟨g, h80, jn, rfl⟩ <;> rcases h2 with ⟨g', rfl⟩ | ⟨g', i, i0, i1, ia, im, rfl⟩ | ⟨g', h80', im, rfl⟩
  · rfl
  · exact absurd g g'
  · exact absurd g g'
  · exact absurd g' g
  · have : i = j := by
      by_cases h : i < j
      · exact absurd ia (jn i i0 h)
      · by_cases h' : j < i
        · exact absurd ja (im j j0 h')
        · omega
    rw [this]
  · exact absurd ja (im j j0 j1)
  · exact absurd g' g
  · exact absurd ia (jn i i0 i1)
  · rfl
theorem s_k_n {T : Int → Int} {S A : s_S} (h1 : s_k T S A) (h2 : s_n T S) : False := by
  obtain ⟨hb, h1⟩ := h1
  rcases h2 with h2 | ⟨g', h80', im⟩
  · exact hb h2
  · rcases h1 with ⟨g, -⟩ | ⟨g, j, j0, j1, ja, -⟩ | ⟨g, h80, -⟩
    · exact g' g
    · exact im j j0 j1 ja
    · omega
theorem s_ks_1 : ∀ {L : List (Int → Int)} {S A B : s_S}, s_ks L S A → s_ks L S B → A = B
  | [], _, _, _, h1, h2 => by cases h1; cases h2; rfl
  | _ :: _, _, _, _, ⟨_, a, b⟩, ⟨_, c, f⟩ => by
    have := s_k_1 a c
    subst this
    exact s_ks_1 b f
theorem s_ks_n : ∀ {L : List (Int → Int)} {S A : s_S}, s_ks L S A → s_ns L S → False
  | [], _, _, _, h => h
  | _ :: _, _, _, ⟨_, a, _⟩, .inl h => s_k_n a h
  | _ :: _, _, _, ⟨_, a, b⟩, .inr ⟨_, c, f⟩ => by
    have := s_k_1 a c
    subst this
    exact s_ks_n b f
theorem s_e_1 : ∀ {v : Nat} {S : s_S} {r r' : Int}, s_e v S r → s_e v S r' → r = r'
  | 0, _, _, _, h1, h2 => h1.trans h2.symm
  | v + 1, S, r, r', h1, h2 => by
    rcases h1 with ⟨a, b⟩ | ⟨a, ⟨A, p, q⟩ | ⟨p, q⟩⟩ <;> rcases h2 with ⟨a', b'⟩ | ⟨a', ⟨A', p', q'⟩ | ⟨p', q'⟩⟩
    · omega
    · omega
    · omega
    · omega
    · have := s_ks_1 p p'
      subst this
      exact s_e_1 q q'
    · exact (s_ks_n p p').elim
    · omega
    · exact (s_ks_n p' p).elim
    · omega
theorem s_pr_1 {G : Int → Int → Int} {m : Int} {h : Int → Int} {r r' : Int} (h1 : s_pr G m h r) (h2 : s_pr G m h r') : r = r' := by
  rcases h1 with ⟨A, p, q⟩ | ⟨p, q⟩ <;> rcases h2 with ⟨A', p', q'⟩ | ⟨p', q'⟩
  · have := s_ks_1 p p'
    subst this
    exact s_e_1 q q'
  · exact (s_ks_n p p').elim
  · exact (s_ks_n p' p).elim
  · omega

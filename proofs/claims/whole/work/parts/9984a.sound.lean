/-! WHAT ROWS SAY of values σ of the variables; the solver says what is so -/
def u_s (h σ : Int → Int) : Nat → Int
  | 0 => 0
  | n + 1 => u_s h σ n + h (n : Int) * σ (n : Int)
def u_v (σ h : Int → Int) : Int := u_s h σ 24 + h 24
theorem u_s_lin {h g σ : Int → Int} (a b : Int) : ∀ n : Nat, u_s (fun k => a * h k + b * g k) σ n = a * u_s h σ n + b * u_s g σ n
  | 0 => by simp [u_s]
  | n + 1 => by
    unfold u_s
    rw [u_s_lin a b n]
    simp only [Int.add_mul, Int.mul_add, Int.mul_assoc]
    omega
theorem u_s_c {h g σ τ : Int → Int} : ∀ {n : Nat}, (∀ k : Int, 0 ≤ k → k < n → h k * σ k = g k * τ k) → u_s h σ n = u_s g τ n
  | 0, _ => rfl
  | n + 1, q => by
    unfold u_s
    rw [u_s_c (n := n) (fun k a b => q k a (by omega)), q n (by omega) (by omega)]
theorem u_v_q {h g σ : Int → Int} (q : ∀ k, 0 ≤ k → k < 25 → h k = g k) : u_v σ h = u_v σ g := by
  unfold u_v
  rw [u_s_c (h := h) (g := g) (τ := σ) (fun k a b => by rw [q k a (by omega)]), q 24 (by omega) (by omega)]
theorem u_v_lin {h g σ : Int → Int} (a b : Int) : u_v σ (fun k => a * h k + b * g k) = a * u_v σ h + b * u_v σ g := by
  unfold u_v
  rw [u_s_lin, Int.mul_add, Int.mul_add]
  dsimp only
  omega
theorem u_v_p {h g σ : Int → Int} {f : Int} : u_v σ (k_p h g f) = u_v σ h + f * u_v σ g := by
  have e : k_p h g f = fun k => 1 * h k + f * g k := by
    funext k
    unfold k_p
    rw [Int.one_mul]
  rw [e, u_v_lin, Int.one_mul]
theorem u_v_m {h σ : Int → Int} {f : Int} : u_v σ (k_m h f) = f * u_v σ h := by
  have e : k_m h f = fun k => f * h k + 0 * h k := by
    funext k
    unfold k_m
    rw [Int.zero_mul, Int.add_zero]
  rw [e, u_v_lin, Int.zero_mul, Int.add_zero]
theorem u_s_0 {σ h : Int → Int} : ∀ {n : Nat}, (∀ k : Int, 0 ≤ k → k < n → h k = 0) → u_s h σ n = 0
  | 0, _ => rfl
  | n + 1, q => by
    unfold u_s
    rw [u_s_0 (n := n) (fun k a b => q k a (by omega)), q n (by omega) (by omega), Int.zero_mul]
    rfl
theorem u_v_n {σ : Int → Int} {n : Int} : u_v σ (k_n n) = n := by
  unfold u_v
  rw [u_s_0 (fun k a b => by unfold k_n; rw [if_neg (by omega)])]
  unfold k_n
  rw [if_pos rfl]
  omega
theorem u_v_0 {σ : Int → Int} : u_v σ k_0 = 0 := by
  unfold u_v
  rw [u_s_0 (h := k_0) (fun k a b => rfl)]
  rfl
theorem u_s_w {σ : Int → Int} {v : Int} : ∀ {n : Nat}, u_s (k_w v) σ n = if 0 ≤ v ∧ v < n then σ v else 0
  | 0 => by
    rw [if_neg (by omega)]
    rfl
  | n + 1 => by
    unfold u_s
    rw [u_s_w]
    unfold k_w
    by_cases h : (n : Int) = v
    · rw [if_pos h, h, if_neg (by omega), if_pos (by omega), Int.one_mul]
      omega
    · rw [if_neg h, Int.zero_mul]
      by_cases h2 : 0 ≤ v ∧ v < n
      · rw [if_pos h2, if_pos (by omega)]
        omega
      · rw [if_neg h2, if_neg (by omega)]
        rfl
theorem u_v_w {σ : Int → Int} {v : Int} (h : 0 ≤ v ∧ v < 24) : u_v σ (k_w v) = σ v := by
  unfold u_v
  rw [u_s_w, if_pos (by omega)]
  unfold k_w
  rw [if_neg (by omega)]
  omega
/-- a row that has no variable from v on says the same of values that are alike before v -/
theorem u_v_k {σ τ h : Int → Int} {v : Int} (hz : ∀ k, v ≤ k → k < 24 → h k = 0) (hs : ∀ k, 0 ≤ k → k < v → τ k = σ k) : u_v τ h = u_v σ h := by
  unfold u_v
  rw [u_s_c (h := h) (g := h) (σ := τ) (τ := σ) (fun k a b => ?_)]
  by_cases q : k < v
  · rw [hs k a q]
  · rw [hz k (by omega) (by omega), Int.zero_mul, Int.zero_mul]
/-- all rows hold -/
def u_S (σ : Int → Int) (S : s_S) : Prop := S.2.2 = 0 ∧ ∀ j, 0 ≤ j → j < S.1 → 0 ≤ u_v σ (S.2.1 j)
theorem u_tight {σ T : Int → Int} (h : 0 ≤ u_v σ T) : 0 ≤ u_v σ (s_t T) := by
  by_cases g0 : s_g T 24 = 0
  · have e : s_t T = T := by
      funext k
      unfold s_t
      rw [if_pos g0]
    rw [e]
    exact h
  · have hp : 0 < s_g T 24 := by have := s_g_0 T 24; omega
    have e : ∀ m : Nat, m ≤ 24 → u_s T σ m = s_g T 24 * u_s (s_t T) σ m := by
      intro m
      induction m with
      | zero => intro _; simp [u_s]
      | succ m ih =>
        intro hm
        unfold u_s
        rw [ih (by omega), Int.mul_add, ← Int.mul_assoc]
        have := Int.mul_ediv_cancel' (s_g_dvd T 24 m (by omega))
        have e2 : s_t T (m : Int) = T (m : Int) / s_g T 24 := by
          unfold s_t
          rw [if_neg g0, if_pos (by omega)]
        rw [e2, this]
    have e3 : s_t T 24 = T 24 / s_g T 24 := by
      unfold s_t
      rw [if_neg g0, if_pos (by omega)]
    unfold u_v at h ⊢
    rw [e 24 (by omega)] at h
    rw [e3]
    generalize u_s (s_t T) σ 24 = S at h
    generalize s_g T 24 = g at h hp
    have h1 := Int.mul_ediv_add_emod (T 24) g
    have h2 := Int.emod_lt_of_pos (T 24) hp
    have h3 : -g < g * (T 24 / g + S) := by
      rw [Int.mul_add]
      omega
    have h4 : -1 < T 24 / g + S := by
      refine Int.lt_of_mul_lt_mul_left (a := g) ?_ (Int.le_of_lt hp)
      omega
    omega
theorem u_k {σ T : Int → Int} {S S' : s_S} (h : u_S σ S) (hT : 0 ≤ u_v σ T) (hk : s_k T S S') : u_S σ S' := by
  have ht := u_tight hT
  obtain ⟨h1, h2⟩ := h
  obtain ⟨-, ⟨g0, rfl⟩ | ⟨g0, j, j0, j1, ja, -, rfl⟩ | ⟨g0, -, -, rfl⟩⟩ := hk
  · have e : s_t T = T := by
      funext k
      unfold s_t
      rw [if_pos g0]
    refine ⟨?_, h2⟩
    dsimp only
    rw [e, if_neg ?_]
    · exact h1
    · unfold u_v at hT
      rw [u_s_0 (fun k a b => (s_g_zero T 24).mp g0 k a (by omega))] at hT
      omega
  · refine ⟨h1, fun i i0 i1 => ?_⟩
    dsimp only at i1 ⊢
    have hi := h2 i i0 i1
    by_cases hij : i = j
    · subst hij
      have e : u_s (fun k => if i = i ∧ k = 24 then min (S.2.1 i 24) (s_t T 24) else S.2.1 i k) σ 24 = u_s (S.2.1 i) σ 24 := u_s_c (fun k a b => by rw [if_neg (by omega)])
      have e2 : u_s (S.2.1 i) σ 24 = u_s (s_t T) σ 24 := u_s_c (fun k a b => by rw [ja k a (by omega)])
      unfold u_v at hi ht ⊢
      rw [e]
      dsimp only
      rw [if_pos ⟨rfl, rfl⟩]
      omega
    · have e : (fun k => if i = j ∧ k = 24 then min (S.2.1 j 24) (s_t T 24) else S.2.1 i k) = S.2.1 i := funext fun k => if_neg (fun q => hij q.1)
      rw [e]
      exact hi
  · refine ⟨h1, fun i i0 i1 => ?_⟩
    dsimp only at i1 ⊢
    by_cases hi : i = S.1
    · have e : (fun k => if i = S.1 then s_t T k else S.2.1 i k) = s_t T := funext fun k => if_pos hi
      rw [e]
      exact ht
    · have e : (fun k => if i = S.1 then s_t T k else S.2.1 i k) = S.2.1 i := funext fun k => if_neg hi
      rw [e]
      exact h2 i i0 (by omega)
theorem u_ks {σ : Int → Int} : ∀ {L : List (Int → Int)} {S S' : s_S}, u_S σ S → (∀ T ∈ L, 0 ≤ u_v σ T) → s_ks L S S' → u_S σ S'
  | [], _, _, h, _, hk => by cases hk; exact h
  | T :: L, S, S', h, hT, ⟨S1, a, b⟩ => u_ks (u_k h (hT T (List.mem_cons_self ..)) a) (fun U hU => hT U (List.mem_cons_of_mem _ hU)) b
theorem u_wb {σ : Int → Int} {v n a : Int} {G : Int → Int → Int} (h : ∀ j, 0 ≤ j → j < n → 0 ≤ u_v σ (G j)) (ha : 0 ≤ a ∧ a < n) (hv : 0 < G a v) : ∀ {t : Nat}, (t : Int) ≤ n → ∀ T ∈ s_wb v n G a t, 0 ≤ u_v σ T
  | 0, _, T, hT => by cases hT
  | t + 1, ht, T, hT => by
    unfold s_wb at hT
    rcases List.mem_append.mp hT with hT | hT
    · split at hT
      · rename_i q
        rcases List.mem_cons.mp hT with rfl | hT
        · unfold s_c
          rw [u_v_lin]
          have h1 := Int.mul_nonneg (Int.le_of_lt q) (h a ha.1 ha.2)
          have h2 := Int.mul_nonneg (Int.le_of_lt hv) (h (n - (t + 1 : Nat)) (by omega) (by omega))
          omega
        · cases hT
      · cases hT
    · exact u_wb h ha hv (by omega) T hT
theorem u_wa {σ : Int → Int} {v n : Int} {G : Int → Int → Int} (h : ∀ j, 0 ≤ j → j < n → 0 ≤ u_v σ (G j)) : ∀ {t : Nat}, (t : Int) ≤ n → ∀ T ∈ s_wa v n G t, 0 ≤ u_v σ T
  | 0, _, T, hT => by cases hT
  | t + 1, ht, T, hT => by
    unfold s_wa at hT
    rcases List.mem_append.mp hT with hT | hT
    · split at hT
      · rcases List.mem_cons.mp hT with rfl | hT
        · exact h _ (by omega) (by omega)
        · cases hT
      · cases hT
    · rcases List.mem_append.mp hT with hT | hT
      · split at hT
        · rename_i q
          exact u_wb h (by omega) q (by omega) T hT
        · cases hT
      · exact u_wa h (by omega) T hT
theorem u_e {σ : Int → Int} : ∀ {v : Nat} {S : s_S}, u_S σ S → 0 ≤ S.1 → (∀ L S', s_ks L s_S0 S' → 0 ≤ S'.1) → ¬ s_e v S 1
  | 0, S, h, _, _, he => by
    have := h.1
    have : (1 : Int) = S.2.2 := he
    omega
  | v + 1, S, h, h0, hb, he => by
    rcases he with ⟨q, -⟩ | ⟨-, ⟨S', q1, q2⟩ | ⟨-, q⟩⟩
    · have := h.1
      omega
    · exact u_e (u_ks (S := s_S0) ⟨rfl, fun j j0 j1 => by have : j < (0 : Int) := j1; omega⟩ (u_wa h.2 (by omega)) q1) (hb _ _ q1) hb q2
    · cases q
theorem s_k_0 {T : Int → Int} {S S' : s_S} (h : s_k T S S') (h0 : 0 ≤ S.1) : 0 ≤ S'.1 := by
  obtain ⟨-, ⟨-, rfl⟩ | ⟨-, j, -, -, -, -, rfl⟩ | ⟨-, -, -, rfl⟩⟩ := h
  · exact h0
  · exact h0
  · show 0 ≤ S.1 + 1
    omega
theorem s_ks_0 : ∀ {L : List (Int → Int)} {S S' : s_S}, s_ks L S S' → 0 ≤ S.1 → 0 ≤ S'.1
  | [], _, _, h, h0 => by cases h; exact h0
  | _ :: _, _, _, ⟨_, a, b⟩, h0 => s_ks_0 b (s_k_0 a h0)
theorem u_fl {σ : Int → Int} {m : Int} {G : Int → Int → Int} (h : ∀ j, 0 ≤ j → j < m → 0 ≤ u_v σ (G j)) : ∀ {t : Nat}, (t : Int) ≤ m → ∀ T ∈ s_fl G m t, 0 ≤ u_v σ T
  | 0, _, T, hT => by cases hT
  | t + 1, ht, T, hT => by
    unfold s_fl at hT
    rcases List.mem_cons.mp hT with rfl | hT
    · exact h _ (by omega) (by omega)
    · exact u_fl h (by omega) T hT
/-- THE SOLVER IS RIGHT -/
theorem u_pr {σ : Int → Int} {m : Int} {F : Int → Int → Int} {h : Int → Int} (hm : 0 ≤ m) (hF : ∀ j, 0 ≤ j → j < m → 0 ≤ u_v σ (F j)) (hp : s_pr F m h 1) : 0 ≤ u_v σ h := by
  refine Decidable.byContradiction fun hn => ?_
  have hg : 0 ≤ u_v σ (s_gl h) := by
    unfold u_v at hn ⊢
    have e : u_s (s_gl h) σ 24 = -1 * u_s h σ 24 + 0 * u_s h σ 24 := by
      rw [← u_s_lin]
      refine u_s_c (fun k a b => ?_)
      unfold s_gl
      rw [if_neg (by omega)]
      congr 1
      omega
    rw [e]
    unfold s_gl
    rw [if_pos rfl]
    omega
  rcases hp with ⟨S1, h1, h2⟩ | ⟨-, q⟩
  · refine u_e (σ := σ) (u_ks (S := s_S0) ⟨rfl, fun j j0 j1 => by have : j < (0 : Int) := j1; omega⟩ (fun T hT => ?_) h1) (s_ks_0 h1 (Int.le_refl 0)) (fun L S' q => s_ks_0 q (Int.le_refl 0)) h2
    rcases List.mem_append.mp hT with hT | hT
    · exact u_fl hF (by omega) T hT
    · rcases List.mem_cons.mp hT with rfl | hT
      · exact hg
      · cases hT
  · cases q
/-- something always comes out -/
theorem u_least {P : Int → Prop} : ∀ (n : Nat), (∃ j : Int, 0 ≤ j ∧ j < n ∧ P j) → ∃ j : Int, 0 ≤ j ∧ j < n ∧ P j ∧ ∀ i, 0 ≤ i → i < j → ¬ P i
  | 0, ⟨j, a, b, _⟩ => by omega
  | n + 1, ⟨j, a, b, c⟩ => by
    by_cases h : ∃ j : Int, 0 ≤ j ∧ j < n ∧ P j
    · obtain ⟨k, k0, k1, k2, k3⟩ := u_least n h
      exact ⟨k, k0, by omega, k2, k3⟩
    · exact ⟨j, a, b, c, fun i i0 i1 q => h ⟨i, i0, by omega, q⟩⟩
def u_b (S : s_S) : Prop := (0 ≤ S.1 ∧ S.1 ≤ 80) ∧ (S.2.2 = 0 ∨ S.2.2 = 1)
theorem u_k_ex {T : Int → Int} {S : s_S} (hb : u_b S) : s_n T S ∨ ∃ S', s_k T S S' ∧ u_b S' := by
  obtain ⟨⟨b0, b1⟩, b2⟩ := hb
  by_cases h1 : s_b (s_t T)
  · exact .inl (.inl h1)
  · by_cases h2 : s_g T 24 = 0
    · refine .inr ⟨_, ⟨h1, .inl ⟨h2, rfl⟩⟩, ⟨b0, b1⟩, ?_⟩
      dsimp only
      split
      · exact .inr rfl
      · exact b2
    · by_cases h3 : ∃ j : Int, 0 ≤ j ∧ j < S.1.toNat ∧ s_a S.2.1 j (s_t T)
      · obtain ⟨j, j0, j1, j2, j3⟩ := u_least _ h3
        exact .inr ⟨_, ⟨h1, .inr (.inl ⟨h2, j, j0, by omega, j2, j3, rfl⟩)⟩, ⟨b0, b1⟩, b2⟩
      · have h4 : ∀ i, 0 ≤ i → i < S.1 → ¬ s_a S.2.1 i (s_t T) := fun i i0 i1 q => h3 ⟨i, i0, by omega, q⟩
        by_cases h5 : S.1 = 80
        · exact .inl (.inr ⟨h2, h5, h4⟩)
        · exact .inr ⟨_, ⟨h1, .inr (.inr ⟨h2, by omega, h4, rfl⟩)⟩, ⟨by dsimp only; omega, by dsimp only; omega⟩, b2⟩
theorem u_ks_ex : ∀ (L : List (Int → Int)) {S : s_S}, u_b S → s_ns L S ∨ ∃ S', s_ks L S S' ∧ u_b S'
  | [], S, hb => .inr ⟨S, rfl, hb⟩
  | T :: L, S, hb => by
    rcases u_k_ex (T := T) hb with h | ⟨S1, h1, h2⟩
    · exact .inl (.inl h)
    · rcases u_ks_ex L h2 with h | ⟨S2, h3, h4⟩
      · exact .inl (.inr ⟨S1, h1, h⟩)
      · exact .inr ⟨S2, ⟨S1, h1, h3⟩, h4⟩
theorem u_b0 : u_b s_S0 := ⟨⟨Int.le_refl 0, by decide⟩, .inl rfl⟩
theorem u_e_ex : ∀ (v : Nat) {S : s_S}, u_b S → ∃ r, s_e v S r
  | 0, S, _ => ⟨S.2.2, rfl⟩
  | v + 1, S, hb => by
    rcases hb.2 with h | h
    · rcases u_ks_ex (s_wa v S.1 S.2.1 S.1.toNat) u_b0 with q | ⟨S', q1, q2⟩
      · exact ⟨0, .inr ⟨h, .inr ⟨q, rfl⟩⟩⟩
      · obtain ⟨r, hr⟩ := u_e_ex v q2
        exact ⟨r, .inr ⟨h, .inl ⟨S', q1, hr⟩⟩⟩
    · exact ⟨1, .inl ⟨h, rfl⟩⟩
theorem u_pr_ex {m : Int} {F : Int → Int → Int} {h : Int → Int} : ∃ r, s_pr F m h r := by
  rcases u_ks_ex (s_fl F m m.toNat ++ [s_gl h]) u_b0 with q | ⟨S', q1, q2⟩
  · exact ⟨0, .inr ⟨q, rfl⟩⟩
  · obtain ⟨r, hr⟩ := u_e_ex 24 q2
    exact ⟨r, .inl ⟨S', q1, hr⟩⟩
/-- a goal that was proved holds -/
theorem u_sp {σ : Int → Int} {m : Int} {F : Int → Int → Int} {h : Int → Int} (hm : 0 ≤ m) (hF : ∀ j, 0 ≤ j → j < m → 0 ≤ u_v σ (F j)) (hp : k_sp F m h = 1) : 0 ≤ u_v σ h := by
  have q := Classical.epsilon_spec (p := fun r => s_pr F m h r) u_pr_ex
  have e : Classical.epsilon (fun r => s_pr F m h r) = k_sp F m h := rfl
  rw [e, hp] at q
  exact u_pr hm hF q

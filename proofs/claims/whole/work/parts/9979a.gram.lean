/-! STEPS AND WHAT THEY ARE MADE OF: how the class's tree grows as it reads them; what comes out: a place where it is wrong, or the next token, how many nodes, the tree, the node -/
abbrev g_o : Type := Int ⊕ (Int × Int × (Int → Int) × Int)
abbrev g_T : Type := Nat → Int → Int → (Int → Int) → g_o → Prop
/-- first the one, then the other -/
def g_b (P : g_o → Prop) (K : Int → Int → (Int → Int) → Int → g_o → Prop) (o : g_o) : Prop := (∃ a, P (.inl a) ∧ o = .inl a) ∨ ∃ p z T v, P (.inr (p, z, T, v)) ∧ K p z T v o
/-- a sign, a word, a name must be there -/
def g_m (tk : Int → t_t) (p m : Int) (K : g_o → Prop) (o : g_o) : Prop := (z_M (tk p) m ∧ K o) ∨ (¬ z_M (tk p) m ∧ o = .inl (tk p).2.1)
def g_w (tk : Int → t_t) (p m : Int) (K : g_o → Prop) (o : g_o) : Prop := (z_W (tk p) m ∧ K o) ∨ (¬ z_W (tk p) m ∧ o = .inl (tk p).2.1)
def g_n (tk : Int → t_t) (p : Int) (K : g_o → Prop) (o : g_o) : Prop := ((tk p).1 = 3 ∧ K o) ∨ (¬ (tk p).1 = 3 ∧ o = .inl (tk p).2.1)
def g_r (tk : Int → t_t) (p : Int) (K : g_o → Prop) (o : g_o) : Prop := (0 ≤ z_r (tk p) ∧ K o) ∨ (z_r (tk p) < 0 ∧ o = .inl (tk p).2.1)
def g_paren (tk : Int → t_t) (prev : g_T) (p z : Int) (T : Int → Int) : g_o → Prop :=
  g_b (prev 0 (p + 1) (z + 1) (t_ad T z 9 (tk p).2.1)) (fun p1 z1 T1 v o =>
    (z_M (tk p1) 58 ∧ ((∃ a, z_Tyn tk (p1 + 1) a ∧ o = .inl a) ∨ ∃ x p2, z_Ty tk (p1 + 1) x p2 ∧ g_m tk p2 41 (fun o => o = .inr (p2 + 1, z1 + z_tn x, t_u (t_ty (t_u (t_u T1 (z * 9 + 5) v) (z * 9 + 0) 10) z1 x) (z * 9 + 6) z1, z)) o))
    ∨ (¬ z_M (tk p1) 58 ∧ g_m tk p1 41 (fun o => o = .inr (p1 + 1, z1, t_u T1 (z * 9 + 5) v, z)) o))
def g_len (tk : Int → t_t) (p z : Int) (T : Int → Int) : g_o → Prop :=
  g_n tk (p + 1) (fun o => o = .inr (p + 2, z + 1, t_u (t_u (t_ad T z 6 (tk p).2.1) (z * 9 + 2) (tk (p + 1)).2.1) (z * 9 + 3) (tk (p + 1)).2.2.1, z))
/-- the indexes of a call behind the first k, the last one being node last -/
def g_ci (tk : Int → t_t) : Nat → Int → Int → Int → (Int → Int) → Int → g_o → Prop
  | 0, k, p, z, T, _, o => (4 ≤ k ∨ ¬ z_M (tk p) 44) ∧ o = .inr (p, z, T, 0)
  | m + 1, k, p, z, T, last, o => k < 4 ∧ z_M (tk p) 44 ∧ ((∃ a, z_In tk (p + 1) a ∧ o = .inl a) ∨ ∃ L p1, z_I tk (p + 1) L p1 ∧ g_ci tk m (k + 1) p1 (z + 1 + L.length) (t_u (t_u (t_ix (t_ad T z 17 (tk (p + 1)).2.1) (z + 1) 0 L) (z * 9 + 5) (z + 1)) (last * 9 + 7) z) z o)
/-- the steps given in a call behind the first k -/
def g_ca (tk : Int → t_t) (prev : g_T) : Nat → Int → Int → Int → (Int → Int) → Int → g_o → Prop
  | 0, k, p, z, T, _, o => (5 ≤ k ∨ ¬ z_M (tk p) 44) ∧ o = .inr (p, z, T, 0)
  | m + 1, k, p, z, T, last, o => k < 5 ∧ z_M (tk p) 44 ∧ g_b (prev 0 (p + 1) z T) (fun p1 z1 T1 v o => g_ca tk prev m (k + 1) p1 z1 (t_u T1 (last * 9 + 7) v) v o) o
/-- from ( on; node n is the call's -/
def g_c2 (tk : Int → t_t) (prev : g_T) (n p z : Int) (T : Int → Int) : g_o → Prop :=
  g_m tk p 40 (fun o => (z_M (tk (p + 1)) 41 ∧ o = .inr (p + 2, z, T, n)) ∨ (¬ z_M (tk (p + 1)) 41 ∧ g_b (prev 0 (p + 1) z T) (fun p1 z1 T1 v o => ∃ m, g_b (g_ca tk prev m 1 p1 z1 (t_u T1 (n * 9 + 5) v) v) (fun p2 z2 T2 _ o => g_m tk p2 41 (fun o => o = .inr (p2 + 1, z2, T2, n)) o) o) o))
def g_call (tk : Int → t_t) (prev : g_T) (n p z : Int) (T : Int → Int) (o : g_o) : Prop :=
  (z_M (tk p) 123 ∧ ((∃ a, z_In tk (p + 1) a ∧ o = .inl a) ∨ ∃ L p1 m, z_I tk (p + 1) L p1 ∧ g_b (g_ci tk m 1 p1 (z + 1 + L.length) (t_u (t_u (t_ix (t_ad T z 17 (tk (p + 1)).2.1) (z + 1) 0 L) (z * 9 + 5) (z + 1)) (n * 9 + 6) z) z) (fun p2 z2 T2 _ o => g_m tk p2 125 (fun o => g_c2 tk prev n (p2 + 1) z2 T2 o) o) o))
  ∨ (¬ z_M (tk p) 123 ∧ g_c2 tk prev n p z T o)
def g_name (tk : Int → t_t) (prev : g_T) (p z : Int) (T : Int → Int) (o : g_o) : Prop :=
  (z_M (tk (p + 1)) 91 ∧ g_b (prev 2 (p + 2) (z + 1) (t_u (t_u (t_u (t_ad T z 2 (tk p).2.1) (z * 9 + 2) (tk p).2.1) (z * 9 + 3) (tk p).2.2.1) (z * 9 + 0) 3)) (fun p1 z1 T1 v o => g_m tk p1 93 (fun o => o = .inr (p1 + 1, z1, t_u T1 (z * 9 + 5) v, z)) o) o)
  ∨ ((z_M (tk (p + 1)) 123 ∨ z_M (tk (p + 1)) 40) ∧ g_call tk prev z (p + 1) (z + 1) (t_u (t_u (t_u (t_ad T z 2 (tk p).2.1) (z * 9 + 2) (tk p).2.1) (z * 9 + 3) (tk p).2.2.1) (z * 9 + 0) 5) o)
  ∨ (¬ z_M (tk (p + 1)) 91 ∧ ¬ z_M (tk (p + 1)) 123 ∧ ¬ z_M (tk (p + 1)) 40 ∧ o = .inr (p + 1, z + 1, t_u (t_u (t_ad T z 2 (tk p).2.1) (z * 9 + 2) (tk p).2.1) (z * 9 + 3) (tk p).2.2.1, z))
def g_part (tk : Int → t_t) (prev : g_T) (p z : Int) (T : Int → Int) (o : g_o) : Prop :=
  ((tk p).1 = 4 ∧ o = .inr (p + 1, z + 1, t_u (t_ad T z 1 (tk p).2.1) (z * 9 + 4) (tk p).2.2.1, z))
  ∨ (z_M (tk p) 40 ∧ g_paren tk prev p z T o)
  ∨ (z_W (tk p) 12462 ∧ g_len tk p z T o)
  ∨ (z_W (tk p) 14519 ∧ g_b (prev 4 (p + 1) (z + 1) (t_ad T z 7 (tk p).2.1)) (fun p1 z1 T1 v o => o = .inr (p1, z1, t_u T1 (z * 9 + 5) v, z)) o)
  ∨ (z_W (tk p) 16052 ∧ g_b (prev 4 (p + 1) (z + 1) (t_ad T z 8 (tk p).2.1)) (fun p1 z1 T1 v o => o = .inr (p1, z1, t_u T1 (z * 9 + 5) v, z)) o)
  ∨ ((tk p).1 = 3 ∧ g_name tk prev p z T o)
  ∨ (¬ (tk p).1 = 4 ∧ ¬ z_M (tk p) 40 ∧ ¬ z_W (tk p) 12462 ∧ ¬ z_W (tk p) 14519 ∧ ¬ z_W (tk p) 16052 ∧ ¬ (tk p).1 = 3 ∧ o = .inl (tk p).2.1)
/-- one more operand of a product -/
def g_pk (tk : Int → t_t) (prev : g_T) (node : Int) : Nat → Int → Int → (Int → Int) → Int → g_o → Prop
  | 0, p, z, T, _, o => ¬ z_M (tk p) 42 ∧ ¬ z_M (tk p) 47 ∧ o = .inr (p, z, T, node)
  | m + 1, p, z, T, last, o =>
    (z_M (tk p) 42 ∧ g_b (g_part tk prev (p + 1) z T) (fun p1 z1 T1 v o => g_pk tk prev node m p1 z1 (t_u (t_u T1 (last * 9 + 7) v) (v * 9 + 8) 42) v o) o)
    ∨ (z_M (tk p) 47 ∧ (((tk (p + 1)).1 = 4 ∧ ¬ (tk (p + 1)).2.2.1 = 0 ∧ g_pk tk prev node m (p + 2) (z + 1) (t_u (t_u (t_u (t_ad T z 1 (tk (p + 1)).2.1) (z * 9 + 4) (tk (p + 1)).2.2.1) (last * 9 + 7) z) (z * 9 + 8) 47) z o) ∨ (¬ ((tk (p + 1)).1 = 4 ∧ ¬ (tk (p + 1)).2.2.1 = 0) ∧ o = .inl (tk (p + 1)).2.1)))
def g_prod (tk : Int → t_t) (prev : g_T) (p z : Int) (T : Int → Int) : g_o → Prop :=
  g_b (g_part tk prev p z T) (fun p1 z1 T1 v o => (¬ z_M (tk p1) 42 ∧ ¬ z_M (tk p1) 47 ∧ o = .inr (p1, z1, T1, v)) ∨ ((z_M (tk p1) 42 ∨ z_M (tk p1) 47) ∧ ∃ m, g_pk tk prev z1 m p1 (z1 + 1) (t_u (t_ad T1 z1 12 (T1 (v * 9 + 1))) (z1 * 9 + 5) v) v o))
def g_sk (tk : Int → t_t) (prev : g_T) (node : Int) : Nat → Int → Int → (Int → Int) → Int → g_o → Prop
  | 0, p, z, T, _, o => z_no (tk p) ∧ o = .inr (p, z, T, node)
  | m + 1, p, z, T, last, o => ∃ s, z_pm (tk p) s ∧ g_b (g_prod tk prev (p + 1) z T) (fun p1 z1 T1 v o => g_sk tk prev node m p1 z1 (t_u (t_u T1 (last * 9 + 7) v) (v * 9 + 8) (tk p).2.2.1) v o) o
def g_sum (tk : Int → t_t) (prev : g_T) (p z : Int) (T : Int → Int) : g_o → Prop :=
  g_b (g_prod tk prev p z T) (fun p1 z1 T1 v o => (z_no (tk p1) ∧ o = .inr (p1, z1, T1, v)) ∨ (¬ z_no (tk p1) ∧ ∃ m, g_sk tk prev z1 m p1 (z1 + 1) (t_u (t_ad T1 z1 11 (T1 (v * 9 + 1))) (z1 * 9 + 5) v) v o))
def g_let (tk : Int → t_t) (prev : g_T) (p z : Int) (T : Int → Int) : g_o → Prop :=
  g_n tk (p + 1) (g_m tk (p + 2) 61 (g_b (prev 1 (p + 3) (z + 1) (t_u (t_u (t_ad T z 14 (tk p).2.1) (z * 9 + 2) (tk (p + 1)).2.1) (z * 9 + 3) (tk (p + 1)).2.2.1)) (fun p1 z1 T1 v => g_w tk p1 302 (g_b (prev 0 (p1 + 1) z1 (t_u T1 (z * 9 + 5) v)) (fun p2 z2 T2 u o => o = .inr (p2, z2, t_u T2 (v * 9 + 7) u, z))))))
def g_if (tk : Int → t_t) (prev : g_T) (p z : Int) (T : Int → Int) : g_o → Prop :=
  g_b (g_sum tk prev (p + 1) (z + 1) (t_ad T z 15 (tk p).2.1)) (fun p1 z1 T1 a => g_r tk p1 (g_b (g_sum tk prev (p1 + 1) z1 (t_u (t_u T1 (z * 9 + 5) a) (z * 9 + 4) (z_r (tk p1)))) (fun p2 z2 T2 b => g_w tk p2 663726 (g_b (prev 0 (p2 + 1) z2 (t_u T2 (a * 9 + 7) b)) (fun p3 z3 T3 u => g_w tk p3 176741 (g_b (prev 0 (p3 + 1) z3 (t_u T3 (b * 9 + 7) u)) (fun p4 z4 T4 v => g_w tk p4 5572 (fun o => o = .inr (p4 + 1, z4, t_u T4 (u * 9 + 7) v, z)))))))))
def g_step (tk : Int → t_t) (prev : g_T) (p z : Int) (T : Int → Int) (o : g_o) : Prop :=
  (z_W (tk p) 12468 ∧ g_let tk prev p z T o)
  ∨ (z_W (tk p) 294 ∧ g_if tk prev p z T o)
  ∨ (¬ z_W (tk p) 12468 ∧ ¬ z_W (tk p) 294 ∧ g_b (g_sum tk prev p z T) (fun p1 z1 T1 v o => (T1 (v * 9 + 0) = 3 ∧ z_M (tk p1) 1 ∧ g_b (prev 1 (p1 + 1) z1 T1) (fun p2 z2 T2 u o => o = .inr (p2, z2, t_u (t_u T2 (T1 (v * 9 + 5) * 9 + 7) u) (v * 9 + 0) 4, v)) o) ∨ (¬ (T1 (v * 9 + 0) = 3 ∧ z_M (tk p1) 1) ∧ o = .inr (p1, z1, T1, v))) o)
def g_qk (tk : Int → t_t) (prev : g_T) (node : Int) : Nat → Int → Int → (Int → Int) → Int → g_o → Prop
  | 0, p, z, T, _, o => ¬ z_M (tk p) 59 ∧ o = .inr (p, z, T, node)
  | m + 1, p, z, T, last, o => z_M (tk p) 59 ∧ g_b (g_step tk prev (p + 1) z T) (fun p1 z1 T1 v o => g_qk tk prev node m p1 z1 (t_u T1 (last * 9 + 7) v) v o) o
def g_steps (tk : Int → t_t) (prev : g_T) (p z : Int) (T : Int → Int) : g_o → Prop :=
  g_b (g_step tk prev p z T) (fun p1 z1 T1 v o => (¬ z_M (tk p1) 59 ∧ o = .inr (p1, z1, T1, v)) ∨ (z_M (tk p1) 59 ∧ ∃ m, g_qk tk prev z1 m p1 (z1 + 1) (t_u (t_ad T1 z1 13 (T1 (v * 9 + 1))) (z1 * 9 + 5) v) v o))
/-- n levels may still be deeper: 0 STEPS, 1 STEP, 2 SUM, 3 PRODUCT, 4 PART -/
def g_R (tk : Int → t_t) : Nat → g_T
  | 0 => fun _ p _ _ o => o = .inl (tk p).2.1
  | n + 1 => fun w => match w with
    | 0 => g_steps tk (g_R tk n)
    | 1 => g_step tk (g_R tk n)
    | 2 => g_sum tk (g_R tk n)
    | 3 => g_prod tk (g_R tk n)
    | _ => g_part tk (g_R tk n)
/-- what holds of what comes out -/
def g_Q (c p z : Int) (T : Int → Int) : g_o → Prop
  | .inl _ => True
  | .inr (p', z', T', v) => p < p' ∧ p' ≤ c ∧ z < z' ∧ z' - z ≤ p' - p ∧ z ≤ v ∧ v < z' ∧ (∀ j, j < z * 9 → T' j = T j) ∧ T' (v * 9 + 7) = 0 ∧ T' (v * 9 + 8) = 0
def g_ok (c : Int) (prev : g_T) : Prop := ∀ w p z T o, w ≤ 4 → 0 ≤ p → p ≤ c → 1 ≤ z → prev w p z T o → g_Q c p z T o
def g_ex (c : Int) (prev : g_T) : Prop := ∀ w p z T, w ≤ 4 → 0 ≤ p → p ≤ c → 1 ≤ z → ∃ o, prev w p z T o
theorem g_b_ex {P : g_o → Prop} {K : Int → Int → (Int → Int) → Int → g_o → Prop} (h1 : ∃ o, P o) (h2 : ∀ p z T v, P (.inr (p, z, T, v)) → ∃ o, K p z T v o) : ∃ o, g_b P K o := by
  obtain ⟨o, h⟩ := h1
  rcases o with a | ⟨p, z, T, v⟩
  · exact ⟨.inl a, .inl ⟨a, h, rfl⟩⟩
  · obtain ⟨o, h3⟩ := h2 p z T v h
    exact ⟨o, .inr ⟨p, z, T, v, h, h3⟩⟩
theorem g_m_ex {tk : Int → t_t} {p m : Int} {K : g_o → Prop} (h : z_M (tk p) m → ∃ o, K o) : ∃ o, g_m tk p m K o := by
  by_cases hm : z_M (tk p) m
  · obtain ⟨o, h1⟩ := h hm
    exact ⟨o, .inl ⟨hm, h1⟩⟩
  · exact ⟨_, .inr ⟨hm, rfl⟩⟩
theorem g_w_ex {tk : Int → t_t} {p m : Int} {K : g_o → Prop} (h : z_W (tk p) m → ∃ o, K o) : ∃ o, g_w tk p m K o := by
  by_cases hm : z_W (tk p) m
  · obtain ⟨o, h1⟩ := h hm
    exact ⟨o, .inl ⟨hm, h1⟩⟩
  · exact ⟨_, .inr ⟨hm, rfl⟩⟩
theorem g_n_ex {tk : Int → t_t} {p : Int} {K : g_o → Prop} (h : (tk p).1 = 3 → ∃ o, K o) : ∃ o, g_n tk p K o := by
  by_cases hm : (tk p).1 = 3
  · obtain ⟨o, h1⟩ := h hm
    exact ⟨o, .inl ⟨hm, h1⟩⟩
  · exact ⟨_, .inr ⟨hm, rfl⟩⟩
theorem g_r_ex {tk : Int → t_t} {p : Int} {K : g_o → Prop} (h : 0 ≤ z_r (tk p) → ∃ o, K o) : ∃ o, g_r tk p K o := by
  by_cases hm : 0 ≤ z_r (tk p)
  · obtain ⟨o, h1⟩ := h hm
    exact ⟨o, .inl ⟨hm, h1⟩⟩
  · exact ⟨_, .inr ⟨by omega, rfl⟩⟩

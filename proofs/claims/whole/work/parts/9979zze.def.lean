/-! DEFINE: the text is the same on both sides -/
section
variable {c c' : Int → Int} {n : Int}
theorem t_wv_c (hc : ∀ j, 0 ≤ j → j < n → c' j = c j) {k : Int} (hk : 0 ≤ k) : ∀ j : Nat, k + j ≤ n → t_wv c' k j = t_wv c k j
  | 0, _ => rfl
  | j + 1, h => by
    unfold t_wv
    rw [t_wv_c hc hk j (by omega), hc (k + j) (by omega) (by omega)]
theorem t_nv_c (hc : ∀ j, 0 ≤ j → j < n → c' j = c j) {k : Int} (hk : 0 ≤ k) : ∀ j : Nat, k + j ≤ n → t_nv c' k j = t_nv c k j
  | 0, _ => rfl
  | j + 1, h => by
    unfold t_nv
    rw [t_nv_c hc hk j (by omega), hc (k + j) (by omega) (by omega)]
theorem t_wq_c (hc : ∀ j, 0 ≤ j → j < n → c' j = c j) {k : Int} (hk : 0 ≤ k) : ∀ j : Nat, k + j ≤ n → t_wq c' k j = t_wq c k j
  | 0, _ => rfl
  | j + 1, h => by
    unfold t_wq
    rw [t_wq_c hc hk j (by omega), hc (k + j) (by omega) (by omega)]
theorem t_nq_c (hc : ∀ j, 0 ≤ j → j < n → c' j = c j) {k : Int} (hk : 0 ≤ k) : ∀ j : Nat, k + j ≤ n → t_nq c' k j = t_nq c k j
  | 0, _ => rfl
  | j + 1, h => by
    unfold t_nq
    rw [t_nq_c hc hk j (by omega), hc (k + j) (by omega) (by omega)]
theorem t_run_c {P : Int → Prop} (hc : ∀ j, 0 ≤ j → j < n → c' j = c j) {k : Int} {j : Nat} (hk : 0 ≤ k) (h : t_run P c n k j) : t_run P c' n k j := by
  obtain ⟨h1, h2, h3⟩ := h
  refine ⟨fun i hi => by rw [hc _ (by omega) (by omega)]; exact h1 i hi, h2, ?_⟩
  by_cases he : k + j = n
  · exact .inl he
  · rcases h3 with h3 | h3
    · exact .inl h3
    · exact .inr (by rw [hc _ (by omega) (by omega)]; exact h3)
theorem t_two_c (hc : ∀ j, 0 ≤ j → j < n → c' j = c j) {k : Int} (hk : 0 ≤ k) (hn : k < n) : t_two c' n k = t_two c n k := by
  unfold t_two
  rw [hc k hk hn]
  by_cases h : k + 1 < n
  · rw [hc (k + 1) (by omega) h]
  · simp only [h, false_and]
theorem t_tok_c (hc : ∀ j, 0 ≤ j → j < n → c' j = c j) {k k2 : Int} {x : t_t} (hk : 0 ≤ k) (hn : k < n) (h : t_tok c n k x k2) : t_tok c' n k x k2 := by
  obtain ⟨a, h⟩ := h
  refine ⟨a, ?_⟩
  rw [hc k hk hn]
  rcases h with ⟨h1, j, r, j1, j2, j3, j4, j5, j6⟩ | ⟨h1, j, r, j1, j2, j3, j4, j5, j6⟩ | ⟨h1, h2, j, m, e, v⟩
  · have w := t_wv_c hc hk j r.2.1
    have w2 := t_wq_c hc hk j r.2.1
    exact .inl ⟨h1, j, t_run_c hc hk r, j1, j2, by rw [w]; exact j3, by rw [w]; exact j4, by rw [w2]; exact j5, j6⟩
  · have w := t_nv_c hc hk j r.2.1
    have w2 := t_nq_c hc hk j r.2.1
    exact .inr (.inl ⟨h1, j, t_run_c hc hk r, j1, j2, by rw [w]; exact j3, j4, by rw [w2]; exact j5, j6⟩)
  · refine .inr (.inr ⟨h1, h2, j, ?_, e, ?_⟩)
    · unfold t_mk at m ⊢
      rw [t_two_c hc hk hn, hc k hk hn]
      exact m
    · unfold t_mv at v ⊢
      rw [t_two_c hc hk hn, hc k hk hn]
      exact v
theorem t_tok_k {k k2 : Int} {x : t_t} (h : t_tok c n k x k2) : k < k2 ∧ x.2.1 = k := by
  obtain ⟨a, h⟩ := h
  rcases h with ⟨_, j, _, j1, j2, _⟩ | ⟨_, j, _, j1, j2, _⟩ | ⟨_, _, j, m, e, _⟩
  · exact ⟨by omega, a⟩
  · exact ⟨by omega, a⟩
  · rcases m with ⟨_, m, _⟩ | ⟨_, m, _⟩ <;> exact ⟨by omega, a⟩
theorem t_L_c (hc : ∀ j, 0 ≤ j → j < n → c' j = c j) : ∀ {l : List t_t} {k : Int}, 0 ≤ k → t_L c n k l → t_L c' n k l
  | [], k, hk, ⟨b, b1, b2⟩ => ⟨b, b1, fun i hi => by rw [hc _ (by omega) (by omega)]; exact b2 i hi⟩
  | x :: l, k, hk, ⟨b, b1, b2, b3, k2, b4, b5⟩ => ⟨b, fun i hi => by rw [hc _ (by omega) (by omega)]; exact b1 i hi, b2, by rw [hc _ (by omega) (by omega)]; exact b3, k2, t_tok_c hc (by omega) b2 b4, t_L_c hc (by have := t_tok_k b4; omega) b5⟩
theorem t_L_p : ∀ {l : List t_t} {k : Int}, 0 ≤ k → t_L c n k l → ∀ x ∈ l, 0 ≤ x.2.1
  | [], _, _, _, _, hx => by cases hx
  | y :: l, k, hk, ⟨b, b1, b2, b3, k2, b4, b5⟩, x, hx => by
    have := t_tok_k b4
    rcases List.mem_cons.mp hx with rfl | hx
    · omega
    · exact t_L_p (by omega) b5 x hx
theorem t_st_p {l : List t_t} (hn : 0 ≤ n) (h : t_L c n 0 l) (i : Int) : 0 ≤ (t_st l n i).2.1 := by
  unfold t_st
  rw [List.getD_eq_getElem?_getD]
  by_cases hi : i.toNat < (l ++ [(0, n, 0, 0, 0)]).length
  · rw [List.getElem?_eq_getElem hi]
    have hm : (l ++ [(0, n, 0, 0, 0)])[i.toNat] ∈ l ++ [(0, n, 0, 0, 0)] := List.getElem_mem hi
    show 0 ≤ ((l ++ [(0, n, 0, 0, 0)])[i.toNat]).2.1
    rcases List.mem_append.mp hm with hm | hm
    · exact t_L_p (Int.le_refl 0) h _ hm
    · rcases List.mem_cons.mp hm with hm | hm
      · rw [hm]; exact hn
      · cases hm
  · rw [List.getElem?_eq_none (by omega)]
    exact hn
end
theorem z_fs_n {tk : Int → t_t} (hp : ∀ i, 0 ≤ (tk i).2.1) : ∀ (l s : List Int), z_fs tk s l = -1 ∨ 0 ≤ z_fs tk s l
  | [], _ => .inl rfl
  | i :: l, s => by
    unfold z_fs
    by_cases h : z_tc tk s (tk i).2.2.1 = true
    · rw [if_pos h]; exact .inr (hp i)
    · rw [if_neg h]; exact z_fs_n hp l _
/-! DEFINE: what it leaves as it was -/
def dX (q e : Nat) (M M' : Nat → Int → Int) : Prop := (∀ x, x ≠ 0 → x ≠ 1 → x ≠ 3 → x ≠ 4 → x ≠ 5 → x ≠ 6 → x ≠ q + 174 → x ≠ q + 175 → x ≠ e + 174 → x ≠ 81 → (x < 83 ∨ 127 < x) → M' x = M x) ∧ (∀ j, j < 5 → M' 1 j = M 1 j) ∧ ∀ j, j ≠ 0 → j ≠ 6 → j ≠ 7 → j ≠ 8 → j ≠ 9 → j ≠ 10 → j ≠ 21 → j ≠ 30 → j ≠ 34 → j ≠ 38 → j ≠ 42 → j ≠ 48 → j ≠ 50 → j ≠ 51 → j ≠ 61 → j ≠ 62 → j ≠ 63 → j ≠ 64 → j ≠ 65 → j ≠ 66 → j ≠ 67 → M' 81 j = M 81 j
section
variable {ρ ρ' : Nat → Option xk} {e e' sl sl' q : Nat} {M M' : Nat → Int → Int} {R R' : Nat → Int → Option Nat}
theorem de_iv1 (h : iv (ρ, e, M, R, sl)) (hx : dX q e M M') : iv_t M' ∧ iv_s M' ∧ iv_d M' ∧ iv_m M' := by
  obtain ⟨h1, h2, h3, -, -, h6, -, -⟩ := h
  obtain ⟨x1, x2, x3⟩ := hx
  have a1 : ∀ (x : Nat) (j : Int), x < 174 → x ≠ 0 → x ≠ 1 → x ≠ 3 → x ≠ 4 → x ≠ 5 → x ≠ 6 → x ≠ 81 → (x < 83 ∨ 127 < x) → M' x j = M x j := fun x j b b0 b1 b3 b4 b5 b6 b7 b8 => by rw [x1 x b0 b1 b3 b4 b5 b6 (by omega) (by omega) (by omega) b7 b8]
  refine ⟨?_, ?_, ?_, ?_⟩
  · simpa (disch := omega) only [iv_t, a1, x2, x3] using h1
  · simpa (disch := omega) only [iv_s, a1, x2, x3] using h2
  · simpa (disch := omega) only [iv_d, a1, x2, x3] using h3
  · simpa (disch := omega) only [iv_m, a1, x2, x3] using h6
/-- nothing was defined -/
theorem de_ivf (h : iv (ρ, e, M, R, sl)) (hx : dX q e M M') (h0 : ∀ j, j ≠ 10 → M' 0 j = M 0 j) (ha : M' 0 10 = M' 81 7) (hj : ∀ j, j = 10 ∨ (62 ≤ j ∧ j ≤ 67) → M' 81 j = M 81 j) (hc : c_T ρ R q) (hρ : ∀ i, i < e → ρ' i = ρ i) (he : e ≤ e') (hR : ∀ x i, x = 7 ∨ x = 38 → R' x i = R x i) : iv (ρ', e', M', R', sl') := by
  obtain ⟨t1, t2, t3, t4⟩ := de_iv1 h hx
  obtain ⟨-, -, -, h4, h5, -, h7, -⟩ := h
  obtain ⟨x1, x2, x3⟩ := hx
  have a1 : ∀ (x : Nat) (j : Int), x < 174 → x ≠ 0 → x ≠ 1 → x ≠ 3 → x ≠ 4 → x ≠ 5 → x ≠ 6 → x ≠ 81 → (x < 83 ∨ 127 < x) → M' x j = M x j := fun x j b b0 b1 b3 b4 b5 b6 b7 b8 => by rw [x1 x b0 b1 b3 b4 b5 b6 (by omega) (by omega) (by omega) b7 b8]
  refine ⟨t1, t2, t3, ?_, ?_, t4, ?_, trivial⟩
  · obtain ⟨p1, p2, p3, p4⟩ := h4
    dsimp only at p1 p2 p3 p4
    refine ⟨ha, ?_, ?_, ?_⟩
    · dsimp only
      rw [h0 9 (by decide), hj 10 (.inl rfl)]
      exact p2
    · dsimp only
      rw [h0 9 (by decide)]
      exact p3
    · dsimp only
      rw [h0 9 (by decide)]
      exact p4
  · simpa (disch := omega) only [iv_c, a1, h0, hj] using h5
  · have h7 : iv_k ρ e M R := h7
    show iv_k ρ' e' M' R'
    unfold iv_k
    intro a b f f0 f1
    rw [h0 11 (by decide)] at a
    rw [a1 8 14 (by decide) (by decide) (by decide) (by decide) (by decide) (by decide) (by decide) (by decide) (by decide)] at b
    rw [h0 9 (by decide)] at f1
    obtain ⟨⟨p, hp⟩, w, w1, w2, w3, w4, w5, w6⟩ := h7 a b f f0 f1
    have nw1 : w ≠ q := fun z => by rw [z, hc.1] at w3; cases w3
    have nw2 : w ≠ q + 1 := fun z => by rw [z, hc.2.1] at w3; injection w3 with w3; injection w3 with w3; injection w3 with _ w3; cases w3
    refine ⟨⟨p, by rw [hR 7 f (.inl rfl)]; exact hp⟩, w, by rw [hR 38 f (.inr rfl)]; exact w1, by omega, by rw [hρ w w2]; exact w3, ?_, ?_, fun i i0 i1 => ?_⟩
    · rw [a1 39 f (by decide) (by decide) (by decide) (by decide) (by decide) (by decide) (by decide) (by decide) (by decide), a1 156 f (by decide) (by decide) (by decide) (by decide) (by decide) (by decide) (by decide) (by decide) (by decide)]
      exact w4
    · rw [a1 156 f (by decide) (by decide) (by decide) (by decide) (by decide) (by decide) (by decide) (by decide) (by decide)]
      exact w5
    · rw [a1 156 f (by decide) (by decide) (by decide) (by decide) (by decide) (by decide) (by decide) (by decide) (by decide)] at i1
      have w7 := w6 i i0 i1
      rw [x1 (w + 174) (by omega) (by omega) (by omega) (by omega) (by omega) (by omega) (by omega) (by omega) (by omega) (by omega) (by omega)]
      simpa (disch := omega) only [a1] using w7
/-- a function was defined -/
theorem de_ivs {n : Int} (h : iv (ρ, e, M, R, sl)) (hx : dX q e M M') (hn : 0 ≤ n ∧ n < 8) (h9 : M' 0 9 = n + 1) (h9' : M' 81 10 = n + 1) (h11 : M' 0 11 = 0) (ha : M' 0 10 = M' 81 7) (hj : M' 81 62 = 0 ∧ M' 81 63 = 0 ∧ M' 81 64 = 0 ∧ M' 81 65 = 0 ∧ M' 81 66 = -1 ∧ M' 81 67 = 0) : iv (ρ', e', M', R', sl') := by
  obtain ⟨t1, t2, t3, t4⟩ := de_iv1 h hx
  refine ⟨t1, t2, t3, ⟨ha, by dsimp only; rw [h9, h9'], by dsimp only; omega, by dsimp only; omega⟩, ⟨.inl h11, fun _ => hj, fun z => ?_⟩, t4, fun z => ?_, trivial⟩
  · have z : M' 0 11 = 1 := z
    omega
  · have z : M' 0 11 = 1 := z
    omega
theorem fR_F {f z : Int} {T F F' : Int → Int} (h : fR f M T F z) (hF : ∀ j, 2 ≤ j ∧ j ≤ 10 → F' j = F j) : fR f M T F' z := by
  unfold fR fXt at h ⊢
  rw [hF 2 (by omega), hF 4 (by omega), hF 5 (by omega), hF 6 (by omega), hF 7 (by omega), hF 8 (by omega), hF 9 (by omega), hF 10 (by omega)]
  exact h
/-- the tables of earlier functions -/
def dY (n : Int) (M M' : Nat → Int → Int) : Prop := ((∀ x i, 86 ≤ x → x ≤ 95 → x ≠ 87 → x ≠ 91 → x ≠ 92 → i ≠ n → M' x i = M x i) ∧ (∀ i, i < 4 * n ∨ 4 * n + 4 ≤ i → M' 87 i = M 87 i) ∧ ∀ x i, x = 91 ∨ x = 92 → i < 5 * n ∨ 5 * n + 5 ≤ i → M' x i = M x i) ∧ (∀ x i, 96 ≤ x → x ≤ 103 → i < 700 * n → M' x i = M x i) ∧ (∀ x i, 104 ≤ x → x ≤ 106 → i < 500 * n → M' x i = M x i) ∧ (∀ x i, 107 ≤ x → x ≤ 109 → i < 260 * n → M' x i = M x i) ∧ (∀ x i, 110 ≤ x → x ≤ 112 → i < 200 * n → M' x i = M x i) ∧ (∀ x i, 113 ≤ x → x ≤ 117 → i < 160 * n → M' x i = M x i) ∧ ∀ i, i < 300 * n → M' 118 i = M 118 i
def dNf (M : Nat → Int → Int) (g : Int) : Prop := (∀ i j, 0 ≤ i → i < j → j < M 88 g → M 87 (4 * g + i) ≠ M 87 (4 * g + j)) ∧ (∀ i j, 0 ≤ i → i < j → j < M 93 g → M 91 (5 * g + i) ≠ M 91 (5 * g + j)) ∧ ∀ i j, 0 ≤ i → i < M 88 g → 0 ≤ j → j < M 93 g → M 87 (4 * g + i) ≠ M 91 (5 * g + j)
/-- the names of all functions are different, each function's -/
def nAl (M : Nat → Int → Int) : Prop := ∀ f, 0 ≤ f → f < M 0 9 → M 88 f ≤ 4 ∧ M 93 f ≤ 5 ∧ dNf M f
theorem dNf_t {M M' : Nat → Int → Int} {f : Int} (e88 : M' 88 f = M 88 f) (e93 : M' 93 f = M 93 f) (e87 : ∀ i, 0 ≤ i → i < 4 → M' 87 (4 * f + i) = M 87 (4 * f + i)) (e91 : ∀ i, 0 ≤ i → i < 5 → M' 91 (5 * f + i) = M 91 (5 * f + i)) (h : M 88 f ≤ 4 ∧ M 93 f ≤ 5 ∧ dNf M f) : M' 88 f ≤ 4 ∧ M' 93 f ≤ 5 ∧ dNf M' f := by
  obtain ⟨b1, b2, h1, h2, h3⟩ := h
  refine ⟨by omega, by omega, fun i j i0 ij j1 => ?_, fun i j i0 ij j1 => ?_, fun i j i0 i1 j0 j1 => ?_⟩
  · rw [e87 i i0 (by omega), e87 j (by omega) (by omega)]; exact h1 i j i0 ij (by omega)
  · rw [e91 i i0 (by omega), e91 j (by omega) (by omega)]; exact h2 i j i0 ij (by omega)
  · rw [e87 i i0 (by omega), e91 j j0 (by omega)]; exact h3 i j i0 (by omega) j0 (by omega)
theorem dNf_y {M M' : Nat → Int → Int} {n f : Int} (hy : dY n M M') (f0 : 0 ≤ f) (f1 : f < n) (h : M 88 f ≤ 4 ∧ M 93 f ≤ 5 ∧ dNf M f) : M' 88 f ≤ 4 ∧ M' 93 f ≤ 5 ∧ dNf M' f := by
  obtain ⟨⟨y1, y2, y3⟩, -⟩ := hy
  exact dNf_t (y1 88 f (by decide) (by decide) (by decide) (by decide) (by decide) (by omega)) (y1 93 f (by decide) (by decide) (by decide) (by decide) (by decide) (by omega)) (fun i i0 i1 => y2 _ (by omega)) (fun i i0 i1 => y3 91 _ (.inl rfl) (by omega)) h
theorem nAl_y {M M' : Nat → Int → Int} {n : Int} (h : nAl M) (h9 : M' 0 9 ≤ M 0 9) (hn : M' 0 9 ≤ n) (hy : dY n M M') : nAl M' := fun f f0 f1 => dNf_y hy f0 (by omega) (h f f0 (by omega))
theorem nAl_1 {M M' : Nat → Int → Int} {n : Int} (h : nAl M) (h9 : M 0 9 = n) (h9' : M' 0 9 = n + 1) (hy : dY n M M') (hn : M' 88 n ≤ 4 ∧ M' 93 n ≤ 5 ∧ dNf M' n) : nAl M' := fun f f0 f1 => by
  by_cases q : f = n
  · rw [q]; exact hn
  · exact dNf_y hy f0 (by omega) (h f f0 (by omega))
theorem z_sm_d {tk : Int → t_t} (hp : ∀ i, 0 ≤ (tk i).2.1) : ∀ (l seen : List Int), z_sm tk seen l (-1) < 0 → (∀ a ∈ seen, ∀ b ∈ l, (tk a).2.2.2.2 ≠ (tk b).2.2.2.2) ∧ l.Pairwise (fun a b => (tk a).2.2.2.2 ≠ (tk b).2.2.2.2)
  | [], _, _ => ⟨fun _ _ _ h => (List.not_mem_nil h).elim, .nil⟩
  | i :: l, seen, h => by
    change z_sm tk (seen ++ [i]) l (if (-1 : Int) < 0 ∧ z_tb tk seen (tk i).2.2.2.2 = true then (tk i).2.1 else -1) < 0 at h
    by_cases hb : z_tb tk seen (tk i).2.2.2.2 = true
    · rw [if_pos ⟨by decide, hb⟩, z_sm_0 l _ _ (hp i)] at h
      have := hp i
      omega
    · rw [if_neg (fun q => hb q.2)] at h
      obtain ⟨h1, h2⟩ := z_sm_d hp l _ h
      refine ⟨fun a ha b hm => ?_, List.pairwise_cons.mpr ⟨fun b hm => h1 i (List.mem_append_right _ List.mem_cons_self) b hm, h2⟩⟩
      rcases List.mem_cons.mp hm with rfl | hm
      · intro q
        exact hb (List.any_eq_true.mpr ⟨a, ha, decide_eq_true q⟩)
      · exact h1 a (List.mem_append_left _ ha) b hm
theorem nmQ_m {tk : Int → t_t} {M : Nat → Int → Int} {x : Nat} : ∀ {l : List Int} {b i : Int}, nmQ tk M x b l → 0 ≤ i → i < l.length → ∃ a ∈ l, M x (b + i) = (tk a).2.2.2.2
  | [], _, _, _, h0, h1 => by rw [List.length_nil] at h1; omega
  | a :: l, b, i, ⟨h, q⟩, h0, h1 => by
    by_cases z : i = 0
    · subst z; rw [Int.add_zero]; exact ⟨a, List.mem_cons_self, h⟩
    · rw [List.length_cons] at h1
      obtain ⟨c, c1, c2⟩ := nmQ_m (i := i - 1) q (by omega) (by omega)
      exact ⟨c, List.mem_cons_of_mem _ c1, by rw [← c2, show b + 1 + (i - 1) = b + i by omega]⟩
theorem nmQ_p {tk : Int → t_t} {M : Nat → Int → Int} {x : Nat} : ∀ {l : List Int} {b i j : Int}, nmQ tk M x b l → l.Pairwise (fun a b => (tk a).2.2.2.2 ≠ (tk b).2.2.2.2) → 0 ≤ i → i < j → j < l.length → M x (b + i) ≠ M x (b + j)
  | [], _, _, _, _, _, h0, h1, h2 => by rw [List.length_nil] at h2; omega
  | a :: l, b, i, j, ⟨h, q⟩, hp, h0, h1, h2 => by
    rw [List.length_cons] at h2
    obtain ⟨p1, p2⟩ := List.pairwise_cons.mp hp
    by_cases z : i = 0
    · subst z
      obtain ⟨c, c1, c2⟩ := nmQ_m (i := j - 1) q (by omega) (by omega)
      rw [show b + 1 + (j - 1) = b + j by omega] at c2
      rw [Int.add_zero, h, c2]
      exact p1 c c1
    · have := nmQ_p (i := i - 1) (j := j - 1) q p2 (by omega) (by omega) (by omega)
      rw [show b + 1 + (i - 1) = b + i by omega, show b + 1 + (j - 1) = b + j by omega] at this
      exact this
/-- no name is told twice: they are different -/
theorem dNf_n {tk : Int → t_t} {c n z : Int} {M : Nat → Int → Int} {T F : Int → Int} (hp : ∀ i, 0 ≤ (tk i).2.1) (h : fRt tk c n M T F z) (h5 : M 81 50 < 0) : M 88 n ≤ 4 ∧ M 93 n ≤ 5 ∧ dNf M n := by
  obtain ⟨l1, L, ps, x, ⟨⟨a1, a2, a3, a4⟩, -, c1, c2, c3, c4, c5⟩, -, -, -, i0, -⟩ := h
  rw [i0] at h5
  obtain ⟨-, hd⟩ := z_sm_d hp _ _ h5
  obtain ⟨d1, d2, d3⟩ := List.pairwise_append.mp hd
  have e : ((ps.map Prod.fst).length : Int) = ps.length := by rw [List.length_map]
  refine ⟨by omega, by omega, fun i j i0 ij j1 => nmQ_p a2 d1 i0 ij (by omega), fun i j i0 ij j1 => nmQ_p c2 d2 i0 ij (by omega), fun i j i0 i1 j0 j1 => ?_⟩
  obtain ⟨u, u1, u2⟩ := nmQ_m (i := i) a2 i0 (by omega)
  obtain ⟨v, v1, v2⟩ := nmQ_m (i := j) c2 j0 (by omega)
  rw [u2, v2]
  exact d3 u u1 v v1
/-- define leaves codes and the tables of the functions that there are as they were, or codes are no longer there -/
def gD0 (M M' : Nat → Int → Int) : Prop := M' 0 11 = 0 ∨ (M' 0 11 = M 0 11 ∧ M' 0 9 = M 0 9 ∧ M' 8 14 = M 8 14 ∧ (∀ (x : Nat) (j : Int), (39 ≤ x ∧ x ≤ 41) ∨ (156 ≤ x ∧ x ≤ 159) → M' x j = M x j) ∧ dY (M 0 9) M M')
def gD (M M' : Nat → Int → Int) : Prop := gD0 M M' ∧ (nAl M → nAl M')
theorem fR_mf {f n z : Int} {T F : Int → Int} (hf : 0 ≤ f ∧ f < n) (h : fR f (mf f M) T F z) (hy : dY n M M') : fR f (mf f M') T F z := by
  obtain ⟨⟨y1, y2, y3⟩, y4, y5, y6, y7, y8, y9⟩ := hy
  obtain ⟨p1, p2, p3, p4, p5, p6⟩ := mf_c (f := f) (M := M)
  obtain ⟨s1, s2, s3, s4, s5, s6⟩ := mf_c (f := f) (M := M')
  have e1 : ∀ (x : Nat) (i : Int), x ≠ 81 → M' x i = M x i → mf f M' x i = mf f M x i := fun x i a b => by rw [mf_ne a, mf_ne a]; exact b
  refine fR_t h ⟨⟨by omega, fun x i u v w => e1 x i (by omega) (y4 x i u (by omega) (by omega))⟩, ⟨by omega, fun x i u v w => e1 x i (by omega) (y5 x i u v (by omega))⟩, ⟨by omega, fun x i u v w => e1 x i (by omega) (y6 x i u v (by omega))⟩, ⟨by omega, fun x i u v w => e1 x i (by omega) (y7 x i u v (by omega))⟩, ⟨by omega, fun x i u v w => e1 x i (by omega) (y8 x i u v (by omega))⟩, by omega, (fun i w => e1 118 i (by decide) (y9 i (by omega))), by omega⟩ (fun x hx => e1 x f (by omega) (y1 x f (by omega) (by omega) (by omega) (by omega) (by omega) (by omega))) (fun i u v => e1 87 i (by decide) (y2 i (by omega))) (fun x i hx u v => e1 x i (by omega) (y3 x i hx (by omega)))
/-- functions are kept, and one may be new -/
theorem de_fn {n : Int} (h : fnP (ρ, e, M, R, sl)) (hn : M 0 9 = n) (hn8 : 0 ≤ n ∧ n ≤ 8) (hq : R 7 n = some (q + 175)) (hx : dX q e M M') (hy : dY n M M') (hρ : ∀ i, i < e → ρ' i = ρ i) (he : e ≤ e') (hR : ∀ i, R' 7 i = R 7 i) (hRT : ∀ x i, 174 ≤ x → x < e + 174 → R' x i = R x i) (h9 : M' 0 9 = n ∨ (M' 0 9 = n + 1 ∧ (1 ≤ M' (q + 174) 1 ∧ M' (q + 174) 1 ≤ 500) ∧ fR n (mf n M') (M' (q + 175)) (fun j => M' (q + 174) j) (M' (q + 174) 1))) : fnP (ρ', e', M', R', sl') := by
  obtain ⟨h1, h2, h3⟩ := h
  dsimp only at h1 h2 h3
  obtain ⟨x1, x2, x3⟩ := hx
  refine ⟨fun k a b => ?_, fun k k' w a b u v z => ?_, fun f a b b9 => ?_⟩
  · dsimp only
    rcases h1 k a b with h | ⟨w, w1, ⟨w2, w3, w4⟩, w5⟩
    · exact .inl (by rw [hR]; exact h)
    · exact .inr ⟨w, by rw [hR]; exact w1, ⟨by rw [hρ w (by omega)]; exact w2, by rw [hρ (w + 1) (by omega)]; exact w3, by rw [hRT (w + 174) 0 (by omega) (by omega)]; exact w4⟩, by omega⟩
  · dsimp only
    rw [hR, hR]
    exact h2 k k' w a b u v z
  · dsimp only at b9 ⊢
    by_cases hfn : f < n
    · obtain ⟨w, w1, w2, w3⟩ := h3 f a b (by omega)
      have nq : w ≠ q := fun z => h2 f n w a b hn8.1 hn8.2 (by omega) w1 (by rw [z]; exact hq)
      have kw : c_T ρ R w ∧ w + 2 ≤ e := by
        rcases h1 f a b with g | ⟨w', k1, k2, k3⟩
        · rw [w1] at g; cases g
        · rw [w1] at k1
          injection k1 with k1
          have : w' = w := by omega
          rw [← this]
          exact ⟨k2, k3⟩
      have kq : c_T ρ R q := by
        rcases h1 n hn8.1 hn8.2 with g | ⟨w', k1, k2, k3⟩
        · rw [hq] at g; cases g
        · rw [hq] at k1
          injection k1 with k1
          have : w' = q := by omega
          rw [← this]
          exact k2
      have nq1 : w ≠ q + 1 := fun z => by
        have z1 := kw.1.1
        rw [z, kq.2.1] at z1
        cases z1
      have nq2 : w + 1 ≠ q := fun z => by
        have z1 := kq.1
        rw [← z, kw.1.2.1] at z1
        cases z1
      have m1 : M' (w + 174) = M (w + 174) := x1 _ (by omega) (by omega) (by omega) (by omega) (by omega) (by omega) (by omega) (by omega) (by omega) (by omega) (by omega)
      have m2 : M' (w + 175) = M (w + 175) := x1 _ (by omega) (by omega) (by omega) (by omega) (by omega) (by omega) (by omega) (by omega) (by omega) (by omega) (by omega)
      refine ⟨w, by rw [hR]; exact w1, by rw [m1]; exact w2, ?_⟩
      rw [m1, m2]
      exact fR_mf ⟨a, hfn⟩ w3 hy
    · rcases h9 with h9 | ⟨h9, g1, g2⟩
      · omega
      · have : f = n := by omega
        subst this
        exact ⟨q, by rw [hR]; exact hq, g1, g2⟩
end

/-! CODE: what the class makes of a tree with marks, what the reference makes of its nodes -/
def k_lo (w : Int) : List Int → Int
  | [] => 0
  | x :: l => if x = w then l.length else k_lo w l
/-- what is given in a call -/
def k_ea (M : Nat → Int → Int) (em : Int → Int → List (Int × Int)) : Int → Nat → Int → List (Int × Int)
  | _, 0, _ => []
  | a, n + 1, p => em (M 118 a) p ++ k_ea M em (a + 1) n (p + (em (M 118 a) p).length)
/-- the reference: fs functions, fr which nodes are free, W locals (the newest first), node r, from the p-th instruction on -/
def k_em (M : Nat → Int → Int) (fs : Nat) (fr : Int → Int) : Nat → List Int → Int → Int → List (Int × Int)
  | 0, _, _, _ => []
  | n + 1, W, r, p =>
    if M 96 r = 0 then [(0, M 97 r)]
    else if M 96 r = 1 then [(1, k_lo (M 97 r) W)]
    else if M 96 r = 5 then [(1, k_lo (M 97 r) W), (8, 0)]
    else if M 96 r = 2 then (1, k_lo (M 97 r) W) :: (k_em M fs fr n W (M 98 r) (p + 1) ++ [(10 + fr r, 0)])
    else if M 96 r = 3 then (1, k_lo (M 97 r) W) :: (k_em M fs fr n W (M 98 r) (p + 1) ++ k_em M fs fr n W (M 99 r) (p + 1 + (k_em M fs fr n W (M 98 r) (p + 1)).length) ++ [(12 + fr r, 0)])
    else if M 96 r = 4 then k_ea M (k_em M fs fr n W) (M 98 r) (M 99 r).toNat p ++ [(15, k_ff M (M 97 r) 0 fs)]
    else if M 96 r = 6 then k_em M fs fr n W (M 97 r) p ++ [(9, 0)]
    else if M 96 r = 7 then k_em M fs fr n W (M 97 r) p ++ [(14, 0)]
    else if M 96 r = 11 then k_em M fs fr n W (M 97 r) p ++ [(7, M 98 r)]
    else if M 96 r = 12 then k_em M fs fr n W (M 97 r) p ++ ((3, 0) :: k_em M fs fr n W (M 98 r) (p + (k_em M fs fr n W (M 97 r) p).length + 1))
    else if M 96 r = 13 then k_em M fs fr n W (M 98 r) p ++ ((2, (W.length : Int)) :: k_em M fs fr n (M 97 r :: W) (M 99 r) (p + (k_em M fs fr n W (M 98 r) p).length + 1))
    else if M 96 r = 14 then e_if (M 97 r) p (k_em M fs fr n W (M 98 r) p) (k_em M fs fr n W (M 99 r)) (k_em M fs fr n W (M 100 r)) (k_em M fs fr n W (M 101 r))
    else if M 96 r = 15 ∨ M 96 r = 16 then k_em M fs fr n W (M 97 r) p
    else k_em M fs fr n W (M 97 r) p ++ k_em M fs fr n W (M 98 r) (p + (k_em M fs fr n W (M 97 r) p).length) ++ [(M 96 r - 4, 0)]
/-- r stands at the place of an access in lo to hi -/
def aP (M : Nat → Int → Int) (T : Int → Int) (lo hi r : Int) : Prop := ∃ m, lo ≤ m ∧ m < hi ∧ c_ac (T (m * 9 + 0)) ∧ M 102 r = T (m * 9 + 1) ∧ 700 * M 81 10 ≤ r ∧ r < M 81 21
theorem c_as_fr {T T' : Int → Int} {em em' : Int → Int → List (Int × Int)} {P : Int → Int → Int → Prop} {E : Int → Prop} {v : Int} (hE : ∀ f, E f → f ≤ 0) (hP : ∀ a b f, P a b f → (∀ p, em' f p = em f p) ∧ t_nx T' f = t_nx T f) : ∀ {n : Nat} {lo hi f : Int} (m : Nat) (p : Int), htc T P E v n lo hi f → c_as T' em' m f p = c_as T em m f p
  | 0, _, _, f, m, p, h => by
    have := hE f h
    cases m with
    | zero => rfl
    | succ m => unfold c_as; rw [if_pos this, if_pos this]
  | n + 1, lo, hi, f, m, p, ⟨a, b, _, c4, c5⟩ => by
    obtain ⟨h1, h2⟩ := hP a b f c4
    cases m with
    | zero => rfl
    | succ m =>
      unfold c_as
      rw [h1, h2]
      by_cases hf : f ≤ 0
      · rw [if_pos hf, if_pos hf]
      · rw [if_neg hf, if_neg hf, c_as_fr hE hP m _ c5]
theorem c_cn_fr {T T' : Int → Int} {em em' : Int → Int → List (Int × Int)} {P : Int → Int → Int → Prop} {E : Int → Prop} {v k : Int} (hE : ∀ f, E f → f ≤ 0) (hP : ∀ a b f, P a b f → (∀ p, em' f p = em f p) ∧ t_nx T' f = t_nx T f ∧ T' (f * 9 + 8) = T (f * 9 + 8) ∧ (T (f * 9 + 8) = 47 → T' (f * 9 + 4) = T (f * 9 + 4))) : ∀ {n : Nat} {lo hi f : Int} (m : Nat) (p : Int), htc T P E v n lo hi f → c_cn T' em' k m f p = c_cn T em k m f p
  | 0, _, _, f, m, p, h => by
    have := hE f h
    cases m with
    | zero => rfl
    | succ m => unfold c_cn; rw [if_pos this, if_pos this]
  | n + 1, lo, hi, f, m, p, ⟨a, b, _, c4, c5⟩ => by
    obtain ⟨h1, h2, h3, h4⟩ := hP a b f c4
    have e : ∀ p, c_pt T' em' k f p = c_pt T em k f p := fun p => by
      unfold c_pt
      rw [h3]
      by_cases k13 : k = 13
      · rw [if_pos k13, if_pos k13, h1]
      · rw [if_neg k13, if_neg k13]
        by_cases h47 : T (f * 9 + 8) = 47
        · rw [if_pos h47, if_pos h47, h4 h47]
        · rw [if_neg h47, if_neg h47, h1]
    cases m with
    | zero => rfl
    | succ m =>
      unfold c_cn
      rw [h2, e]
      by_cases hf : f ≤ 0
      · rw [if_pos hf, if_pos hf]
      · rw [if_neg hf, if_neg hf, c_cn_fr hE hP m _ c5]
/-- the code of a part depends on its own nodes alone -/
theorem c_em_fr {T T1 T2 : Int → Int} (h1 : tM T T1) (h2 : tM T T2) : ∀ {L : Nat} {lo hi v t w : Int} (p : Int), ht T L lo hi v t w → (∀ j, lo * 9 ≤ j → j < hi * 9 → T2 j = T1 j) → c_em T2 L v p = c_em T1 L v p
  | 0, _, _, _, _, _, _, h, _ => h.elim
  | L + 1, lo, hi, v, t, w, p, ⟨a1, a2, n, a3, a4⟩, hj => by
    have q : ∀ i, 0 ≤ i → i < 9 → T2 (v * 9 + i) = T1 (v * 9 + i) := fun i i0 i9 => hj _ (by omega) (by omega)
    have q0 := q 0 (by omega) (by omega)
    have q4 := q 4 (by omega) (by omega)
    have q5 := q 5 (by omega) (by omega)
    have q6 := q 6 (by omega) (by omega)
    have z0 : T1 (v * 9 + 0) = T (v * 9 + 0) := tM_i h1 v 0 (by omega) (by omega) (by omega) (by omega)
    have z5 : T1 (v * 9 + 5) = T (v * 9 + 5) := tM_i h1 v 5 (by omega) (by omega) (by omega) (by omega)
    have nx2 : ∀ f, t_nx T2 f = t_nx T f := fun f => tM_nx h2 f
    have nx1 : ∀ f, t_nx T1 f = t_nx T f := fun f => tM_nx h1 f
    have ps : htc T1 (fun a b f => (∀ p, c_em T2 L f p = c_em T1 L f p) ∧ (lo ≤ f ∧ f < hi) ∧ a < b) (h_e (T (v * 9 + 0))) v n lo hi (T (v * 9 + 5)) := htc_fr (lo := lo) (fun a b f b1 b2 _ b4 => by
      have i1 := ht_in b4
      exact ⟨⟨fun p => c_em_fr h1 h2 p b4 (fun j j1 j2 => hj j (by omega) (by omega)), by omega, by omega⟩, nx1 f, by omega⟩) (Int.le_refl _) a4
    have nx : ∀ f, t_nx T2 f = t_nx T1 f := fun f => by rw [nx2, nx1]
    unfold c_em
    rw [q0, q4, q5, q6, z0, z5]
    simp only [nx]
    generalize hk : T (v * 9 + 0) = k at a3 ps ⊢
    generalize hf : T (v * 9 + 5) = f at ps ⊢
    unfold h_n at a3
    by_cases k1 : k = 1
    · rw [if_pos k1, if_pos k1]
    rw [if_neg k1, if_neg k1]
    by_cases k2 : k = 2
    · rw [if_pos k2, if_pos k2]
    rw [if_neg k2, if_neg k2]
    by_cases k6 : k = 6
    · rw [if_pos k6, if_pos k6]
    rw [if_neg k6, if_neg k6]
    by_cases k3 : k = 3
    · have hn : n = 1 := by omega
      subst hn
      obtain ⟨_, _, _, ⟨e1, -⟩, -⟩ := ps
      rw [if_pos k3, if_pos k3, e1]
    rw [if_neg k3, if_neg k3]
    by_cases k4 : k = 4
    · have hn : n = 2 := by omega
      subst hn
      obtain ⟨_, _, _, ⟨e1, -⟩, _, _, _, ⟨e2, -⟩, -⟩ := ps
      rw [if_pos k4, if_pos k4, e1, e2]
    rw [if_neg k4, if_neg k4]
    by_cases k5 : k = 5
    · rw [if_pos k5, if_pos k5, c_as_fr (T := T1) (T' := T2) (em := c_em T1 L) (em' := c_em T2 L) (E := h_e k) (v := v) (fun f h => by have := h (.inl k5); omega) (fun a b f h => ⟨h.1, nx f⟩) 500 p ps]
    rw [if_neg k5, if_neg k5]
    by_cases k7 : k = 7
    · have hn : n = 1 := by omega
      subst hn
      obtain ⟨_, _, _, ⟨e1, -⟩, -⟩ := ps
      rw [if_pos k7, if_pos k7, e1]
    rw [if_neg k7, if_neg k7]
    by_cases k8 : k = 8
    · have hn : n = 1 := by omega
      subst hn
      obtain ⟨_, _, _, ⟨e1, -⟩, -⟩ := ps
      rw [if_pos k8, if_pos k8, e1]
    rw [if_neg k8, if_neg k8]
    by_cases k9 : k = 9 ∨ k = 10
    · have hn : n = 1 := by omega
      subst hn
      obtain ⟨_, _, _, ⟨e1, -⟩, -⟩ := ps
      rw [if_pos k9, if_pos k9, e1]
    rw [if_neg k9, if_neg k9]
    by_cases k14 : k = 14
    · have hn : n = 2 := by omega
      subst hn
      obtain ⟨_, _, _, ⟨e1, -⟩, _, _, _, ⟨e2, -⟩, -⟩ := ps
      rw [if_pos k14, if_pos k14, e1, e2]
    rw [if_neg k14, if_neg k14]
    by_cases k15 : k = 15
    · have hn : n = 4 := by omega
      subst hn
      obtain ⟨_, _, _, ⟨e1, -⟩, _, _, _, ⟨e2, -⟩, _, _, _, ⟨e3, -⟩, _, _, _, ⟨e4, -⟩, -⟩ := ps
      rw [if_pos k15, if_pos k15, e1, funext e2, funext e3, funext e4]
    rw [if_neg k15, if_neg k15]
    obtain ⟨m, rfl⟩ : ∃ m, n = m + 1 := ⟨n - 1, by omega⟩
    obtain ⟨_, _, _, ⟨e1, -⟩, ps⟩ := ps
    rw [e1, c_cn_fr (T := T1) (T' := T2) (em := c_em T1 L) (em' := c_em T2 L) (E := h_e k) (v := v) (fun f h => by have := h (.inr (by omega)); omega) (fun a b f h => ⟨h.1, nx f, hj _ (by omega) (by omega), fun _ => hj _ (by omega) (by omega)⟩) 500 _ ps]
/-- the code of the reference's nodes depends on which of its own accesses are free -/
theorem k_ea_fr {M : Nat → Int → Int} {em em' : Int → Int → List (Int × Int)} : ∀ {n : Nat} {a : Int} (p : Int), (∀ i, a ≤ i → i < a + n → ∀ p, em' (M 118 i) p = em (M 118 i) p) → k_ea M em' a n p = k_ea M em a n p
  | 0, _, _, _ => rfl
  | n + 1, a, p, h => by
    unfold k_ea
    rw [h a (by omega) (by omega), k_ea_fr _ (fun i i0 i1 => h i (by omega) (by omega))]

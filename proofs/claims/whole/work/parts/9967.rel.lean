/-! WORDS in both numberings; how the class's and the reference's tokens belong together -/
def n_27 (i : Nat) : Int := [4955, 6959, 13550, 8903, 257, 249, 399641, 107681, 4027, 8897, 10364, 11522].getD i 0
def w_w (w v : Int) : Prop := ∃ l : List Nat, (w_ok l ∧ l.length ≤ 6) ∧ l ≠ [] ∧ w = (w_rv 32 l : Int) ∧ v = (w_rv 27 l : Int)
theorem w_w_eq {w v w' v' : Int} (h : w_w w v) (h' : w_w w' v') : w = w' ↔ v = v' := by
  obtain ⟨l, a, b, c, f⟩ := h
  obtain ⟨l', a', b', c', f'⟩ := h'
  have := w_same (B := 32) (C := 27) (by decide) (by decide) a.1 a'.1
  omega
theorem w_w_pos {w v : Int} (h : w_w w v) : 0 < w ∧ 0 < v := by
  obtain ⟨l, a, b, c, f⟩ := h
  cases l with
  | nil => exact absurd rfl b
  | cons x l =>
    have h1 := w_pos (B := 32) a.1
    have h2 := w_pos (B := 27) a.1
    omega
theorem w_w_in {w v : Int} (h : w_w w v) : v < 387420489 := by
  obtain ⟨l, a, b, c, f⟩ := h
  have h1 := w_lt (B := 27) (by decide) a.1
  have h2 : (27 : Nat) ^ l.length ≤ 27 ^ 6 := Nat.pow_le_pow_right (by decide) a.2
  rw [f]
  have h3 : (27 : Nat) ^ 6 = 387420489 := by decide
  omega
theorem n_w (i : Nat) (hi : i < 12) : w_w (n_nn i) (n_27 i) := by
  have hc : i = 0 ∨ i = 1 ∨ i = 2 ∨ i = 3 ∨ i = 4 ∨ i = 5 ∨ i = 6 ∨ i = 7 ∨ i = 8 ∨ i = 9 ∨ i = 10 ∨ i = 11 := by omega
  rcases hc with rfl | rfl | rfl | rfl | rfl | rfl | rfl | rfl | rfl | rfl | rfl | rfl
  · exact ⟨[14, 21, 6], ⟨by unfold w_ok; decide, by decide⟩, by decide, rfl, rfl⟩
  · exact ⟨[20, 14, 9], ⟨by unfold w_ok; decide, by decide⟩, by decide, rfl, rfl⟩
  · exact ⟨[23, 15, 18], ⟨by unfold w_ok; decide, by decide⟩, by decide, rfl, rfl⟩
  · exact ⟨[20, 5, 12], ⟨by unfold w_ok; decide, by decide⟩, by decide, rfl, rfl⟩
  · exact ⟨[14, 9], ⟨by unfold w_ok; decide, by decide⟩, by decide, rfl, rfl⟩
  · exact ⟨[6, 9], ⟨by unfold w_ok; decide, by decide⟩, by decide, rfl, rfl⟩
  · exact ⟨[14, 5, 8, 20], ⟨by unfold w_ok; decide, by decide⟩, by decide, rfl, rfl⟩
  · exact ⟨[5, 19, 12, 5], ⟨by unfold w_ok; decide, by decide⟩, by decide, rfl, rfl⟩
  · exact ⟨[4, 14, 5], ⟨by unfold w_ok; decide, by decide⟩, by decide, rfl, rfl⟩
  · exact ⟨[14, 5, 12], ⟨by unfold w_ok; decide, by decide⟩, by decide, rfl, rfl⟩
  · exact ⟨[23, 5, 14], ⟨by unfold w_ok; decide, by decide⟩, by decide, rfl, rfl⟩
  · exact ⟨[20, 21, 15], ⟨by unfold w_ok; decide, by decide⟩, by decide, rfl, rfl⟩
theorem n_27_inj {i j : Nat} (hi : i < 12) (hj : j < 12) : n_nn i = n_nn j ↔ n_27 i = n_27 j := w_w_eq (n_w i hi) (n_w j hj)
def t_ll (c : Int → Int) (k : Int) : Nat → List Nat
  | 0 => []
  | i + 1 => (c (k + i) - 96).toNat :: t_ll c k i
theorem t_ll_ok {c : Int → Int} {k : Int} : ∀ j : Nat, (∀ i : Nat, i < j → t_let (c (k + i))) → w_ok (t_ll c k j) ∧ (t_ll c k j).length = j
  | 0, _ => ⟨fun _ h => (by cases h), rfl⟩
  | j + 1, h => by
    obtain ⟨h1, h2⟩ := t_ll_ok (c := c) (k := k) j (fun i hi => h i (by omega))
    have h3 := h j (by omega)
    unfold t_let at h3
    refine ⟨fun x hx => ?_, by show (t_ll c k j).length + 1 = _; omega⟩
    rcases List.mem_cons.mp hx with rfl | hx
    · omega
    · exact h1 x hx
theorem t_wv_l {c : Int → Int} {k : Int} : ∀ j : Nat, j ≤ 6 → (∀ i : Nat, i < j → t_let (c (k + i))) → t_wv c k j = (w_rv 32 (t_ll c k j) : Int) ∧ t_wq c k j = (w_rv 27 (t_ll c k j) : Int)
  | 0, _, _ => ⟨rfl, rfl⟩
  | j + 1, hj, h => by
    have hl : ∀ i : Nat, i < j → t_let (c (k + i)) := fun i hi => h i (by omega)
    obtain ⟨h1, h2⟩ := t_wv_l (c := c) (k := k) j (by omega) hl
    obtain ⟨o1, o2⟩ := t_ll_ok (c := c) (k := k) j hl
    have h3 := h j (by omega)
    unfold t_let at h3
    have b1 := w_lt (B := 32) (by decide) o1
    have b2 := w_lt (B := 27) (by decide) o1
    rw [o2] at b1 b2
    have p1 : 32 ^ j ≤ 32 ^ 5 := Nat.pow_le_pow_right (by decide) (by omega)
    have p2 : 27 ^ j ≤ 27 ^ 5 := Nat.pow_le_pow_right (by decide) (by omega)
    rw [show (32 : Nat) ^ 5 = 33554432 by decide] at p1
    rw [show (27 : Nat) ^ 5 = 14348907 by decide] at p2
    constructor
    · show w32 (w32 (t_wv c k j * 32) + (c (k + j) - 96)) = ((w_rv 32 (t_ll c k j) * 32 + (c (k + j) - 96).toNat : Nat) : Int)
      rw [h1, w32_id (z := (w_rv 32 (t_ll c k j) : Int) * 32) (by omega) (by omega), w32_id (by omega) (by omega)]
      omega
    · show (if j < 6 then w32 (w32 (w32 (w32 (27 * t_wq c k j) + c (k + j)) - 97) + 1) else t_wq c k j) = ((w_rv 27 (t_ll c k j) * 27 + (c (k + j) - 96).toNat : Nat) : Int)
      rw [if_pos (by omega), h2, w32_id (z := 27 * (w_rv 27 (t_ll c k j) : Int)) (by omega) (by omega), w32_id (z := 27 * (w_rv 27 (t_ll c k j) : Int) + c (k + j)) (by omega) (by omega), w32_id (z := 27 * (w_rv 27 (t_ll c k j) : Int) + c (k + j) - 97) (by omega) (by omega), w32_id (by omega) (by omega)]
      omega
theorem t_nv_l {c : Int → Int} {k : Int} {j : Nat} (hj : j ≤ 3) (h : ∀ i : Nat, i < j → t_dig (c (k + i))) : t_nv c k j = t_nq c k j ∧ 0 ≤ t_nv c k j ∧ t_nv c k j ≤ 999 := by
  have st : ∀ (i : Nat) (B : Int), i < 3 → i < j → t_nv c k i = t_nq c k i ∧ 0 ≤ t_nv c k i ∧ t_nv c k i ≤ B → 0 ≤ B → B ≤ 99 → t_nv c k (i + 1) = t_nq c k (i + 1) ∧ 0 ≤ t_nv c k (i + 1) ∧ t_nv c k (i + 1) ≤ 10 * B + 9 := by
    intro i B hi hij ⟨h1, h2, h3⟩ hB hB2
    have h4 := h i hij
    unfold t_dig at h4
    have e1 : t_nv c k (i + 1) = 10 * t_nv c k i + (c (k + i) - 48) := by
      show w32 (w32 (t_nv c k i * 10) + (c (k + i) - 48)) = _
      rw [w32_id (z := t_nv c k i * 10) (by omega) (by omega), w32_id (by omega) (by omega)]
      omega
    have e2 : t_nq c k (i + 1) = 10 * t_nv c k i + (c (k + i) - 48) := by
      show (if i < 3 then w32 (w32 (w32 (10 * t_nq c k i) + c (k + i)) - 48) else t_nq c k i) = _
      rw [if_pos hi, ← h1, w32_id (z := 10 * t_nv c k i) (by omega) (by omega), w32_id (z := 10 * t_nv c k i + c (k + i)) (by omega) (by omega), w32_id (by omega) (by omega)]
      omega
    omega
  have h0 : t_nv c k 0 = t_nq c k 0 ∧ 0 ≤ t_nv c k 0 ∧ t_nv c k 0 ≤ 0 := ⟨rfl, Int.le_refl 0, Int.le_refl 0⟩
  have g1 : 0 < j → t_nv c k 1 = t_nq c k 1 ∧ 0 ≤ t_nv c k 1 ∧ t_nv c k 1 ≤ 9 := fun q => st 0 0 (by omega) q h0 (by omega) (by omega)
  have g2 : 1 < j → t_nv c k 2 = t_nq c k 2 ∧ 0 ≤ t_nv c k 2 ∧ t_nv c k 2 ≤ 99 := fun q => st 1 9 (by omega) q (g1 (by omega)) (by omega) (by omega)
  have g3 : 2 < j → t_nv c k 3 = t_nq c k 3 ∧ 0 ≤ t_nv c k 3 ∧ t_nv c k 3 ≤ 999 := fun q => st 2 99 (by omega) q (g2 (by omega)) (by omega) (by omega)
  have hc : j = 0 ∨ j = 1 ∨ j = 2 ∨ j = 3 := by omega
  rcases hc with rfl | rfl | rfl | rfl
  · exact ⟨h0.1, h0.2.1, by omega⟩
  · have := g1 (by omega)
    exact ⟨this.1, this.2.1, by omega⟩
  · have := g2 (by omega)
    exact ⟨this.1, this.2.1, by omega⟩
  · exact g3 (by omega)
/-- how the two sides' words for one thing belong together -/
def t_rel (x : t_t) : Prop := (x.1 = 0 ∧ x.2.2.2.1 = 0) ∨ (x.1 = 1 ∧ x.2.2.2.1 = 4) ∨ (x.1 = 2 ∧ x.2.2.2.1 = 1 ∧ ∃ i : Nat, i < 12 ∧ x.2.2.1 = n_nn i ∧ x.2.2.2.2 = n_27 i) ∨ (x.1 = 3 ∧ x.2.2.2.1 = 1 ∧ w_w x.2.2.1 x.2.2.2.2 ∧ ∀ i : Nat, i < 12 → x.2.2.1 ≠ n_nn i ∧ x.2.2.2.2 ≠ n_27 i) ∨ (x.1 = 4 ∧ x.2.2.2.1 = 2 ∧ x.2.2.1 = x.2.2.2.2 ∧ 0 ≤ x.2.2.1 ∧ x.2.2.1 ≤ 999) ∨ (x.1 = 5 ∧ x.2.2.2.1 = 3 ∧ ((x.2.2.1 = 1 ∧ x.2.2.2.2 = 130) ∨ (x.2.2.1 = 2 ∧ x.2.2.2.2 = 128) ∨ (x.2.2.1 = 3 ∧ x.2.2.2.2 = 129) ∨ (x.2.2.1 = x.2.2.2.2 ∧ t_mrk x.2.2.1)))
theorem t_tok_rel {c : Int → Int} {n k k2 : Int} {x : t_t} (h : t_tok c n k x k2) : t_rel x ∧ x.1 ≠ 0 := by
  obtain ⟨x1, x2, x3, x4, x5⟩ := x
  obtain ⟨-, h⟩ := h
  dsimp only at h
  unfold t_rel
  dsimp only
  rcases h with ⟨q1, j, q2, q3, q4, q5, q6, q7, q8⟩ | ⟨q1, j, q2, q3, q4, q5, q6, q7, q8⟩ | ⟨q1, q2, j, q3, q4, q5⟩
  · rcases q6 with ⟨r1, r2⟩ | ⟨r1, r2, i, r3, r4⟩ | ⟨r1, r2, r3⟩
    · rw [if_pos r1] at q8
      exact ⟨.inr (.inl ⟨r2, q8⟩), by omega⟩
    · rw [if_neg (by omega)] at q8
      obtain ⟨w1, w2⟩ := t_wv_l j r1 q2.1
      obtain ⟨o1, o2⟩ := t_ll_ok j q2.1
      have hw : w_w x3 x5 := ⟨t_ll c k j, ⟨o1, by rw [o2]; omega⟩, fun z => by rw [z] at o2; simp at o2; omega, by rw [q5, w1], by rw [q7, w2]⟩
      refine ⟨.inr (.inr (.inl ⟨r2, q8, i, r3, by rw [q5, r4], ?_⟩)), by omega⟩
      exact (w_w_eq hw (n_w i r3)).mp (by rw [q5, r4])
    · rw [if_neg (by omega)] at q8
      obtain ⟨w1, w2⟩ := t_wv_l j r1 q2.1
      obtain ⟨o1, o2⟩ := t_ll_ok j q2.1
      have hw : w_w x3 x5 := ⟨t_ll c k j, ⟨o1, by rw [o2]; omega⟩, fun z => by rw [z] at o2; simp at o2; omega, by rw [q5, w1], by rw [q7, w2]⟩
      refine ⟨.inr (.inr (.inr (.inl ⟨r2, q8, hw, fun i hi => ?_⟩))), by omega⟩
      have hn : x3 ≠ n_nn i := fun z => r3 i hi (by rw [← z, q5])
      exact ⟨hn, fun z => hn ((w_w_eq hw (n_w i hi)).mpr z)⟩
  · rcases q6 with ⟨r1, r2⟩ | ⟨r1, r2⟩
    · rw [if_pos r1] at q8
      exact ⟨.inr (.inl ⟨r2, q8⟩), by omega⟩
    · rw [if_neg (by omega)] at q8
      obtain ⟨n1, n2, n3⟩ := t_nv_l r1 q2.1
      exact ⟨.inr (.inr (.inr (.inr (.inl ⟨r2, q8, by omega, by omega, by omega⟩)))), by omega⟩
  · rcases q3 with ⟨r1, r2, r3, r4⟩ | ⟨r1, r2, r3, r4⟩
    · rcases q5 with ⟨s1, s2, s3⟩ | ⟨s1, -⟩
      · exact ⟨.inr (.inr (.inr (.inr (.inr ⟨r3, s2, by omega⟩)))), by omega⟩
      · exact absurd r1 s1
    · rcases q5 with ⟨s1, -⟩ | ⟨s1, s2, s3⟩
      · exact absurd s1 r1
      · rcases r4 with ⟨r4, r5⟩ | ⟨r4, r5⟩
        · have hm := t_mrk_by.mp r5
          rcases s3 with ⟨s3, -⟩ | ⟨-, s4⟩
          · exact ⟨.inr (.inr (.inr (.inr (.inr ⟨r4, s3, .inr (.inr (.inr ⟨by omega, by rw [r3]; exact hm⟩))⟩)))), by omega⟩
          · exact absurd hm s4
        · rcases s3 with ⟨-, s4⟩ | ⟨s3, -⟩
          · obtain ⟨i, i1, i2⟩ := t_mrk_by.mpr s4
            exact absurd i2 (r5 i i1)
          · exact ⟨.inr (.inl ⟨r4, s3⟩), by omega⟩
/-- the stream of tokens: token i, how many before the end -/
def t_st (l : List t_t) (n : Int) (i : Int) : t_t := (l ++ [(0, n, 0, 0, 0)]).getD i.toNat (0, n, 0, 0, 0)
theorem t_L_rel {c : Int → Int} {n : Int} : ∀ {l : List t_t} {k : Int}, t_L c n k l → ∀ x ∈ l, t_rel x ∧ x.1 ≠ 0
  | [], _, _, _, h => by cases h
  | y :: l, k, ⟨b, _, _, _, k2, h1, h2⟩, x, hx => by
    rcases List.mem_cons.mp hx with rfl | hx
    · exact t_tok_rel h1
    · exact t_L_rel h2 x hx
/-- a stream: how the words belong together; only the last one is the end -/
def t_S (tk : Int → t_t) (c : Int) : Prop := 0 ≤ c ∧ c ≤ 480 ∧ (∀ i, 0 ≤ i → i ≤ c → t_rel (tk i)) ∧ (∀ i, 0 ≤ i → i < c → (tk i).1 ≠ 0) ∧ (tk c).1 = 0
theorem t_st_S {c : Int → Int} {n : Int} {l : List t_t} (h : t_L c n 0 l) (hl : (l.length : Int) ≤ 480) : t_S (t_st l n) l.length := by
  have hlt : ∀ i : Int, 0 ≤ i → i < l.length → t_st l n i ∈ l := fun i a b => by
    unfold t_st
    have hi : i.toNat < l.length := by omega
    rw [List.getD_eq_getElem?_getD, List.getElem?_append_left hi, List.getElem?_eq_getElem hi]
    exact List.getElem_mem hi
  have hend : t_st l n l.length = (0, n, 0, 0, 0) := by
    unfold t_st
    rw [List.getD_eq_getElem?_getD, List.getElem?_append_right (by omega)]
    simp
  refine ⟨by omega, hl, fun i a b => ?_, fun i a b => (t_L_rel h _ (hlt i a b)).2, by rw [hend]⟩
  by_cases hi : i < l.length
  · exact (t_L_rel h _ (hlt i a hi)).1
  · rw [show i = (l.length : Int) by omega, hend]
    exact .inl ⟨rfl, rfl⟩
theorem t_PC_at {M : Nat → Int → Int} {df : t_t} : ∀ (l : List t_t) (m : Int), t_PC M m l → ∀ i : Nat, i < l.length → M 3 (m + i) = (l.getD i df).1 ∧ M 4 (m + i) = (l.getD i df).2.1 ∧ M 5 (m + i) = (l.getD i df).2.2.1
  | x :: l, m, ⟨h1, h2, h3, h4⟩, i, hi => by
    cases i with
    | zero =>
      rw [show m + ((0 : Nat) : Int) = m by omega]
      exact ⟨h1, h2, h3⟩
    | succ i =>
      rw [show m + ((i + 1 : Nat) : Int) = m + 1 + (i : Int) by omega]
      exact t_PC_at l (m + 1) h4 i (by simpa using hi)
theorem t_PR_at {M : Nat → Int → Int} {df : t_t} : ∀ (l : List t_t) (m : Int), t_PR M m l → ∀ i : Nat, i < l.length → M 83 (m + i) = (l.getD i df).2.2.2.1 ∧ M 84 (m + i) = (l.getD i df).2.1 ∧ M 85 (m + i) = (l.getD i df).2.2.2.2
  | x :: l, m, ⟨h1, h2, h3, h4⟩, i, hi => by
    cases i with
    | zero =>
      rw [show m + ((0 : Nat) : Int) = m by omega]
      exact ⟨h1, h2, h3⟩
    | succ i =>
      rw [show m + ((i + 1 : Nat) : Int) = m + 1 + (i : Int) by omega]
      exact t_PR_at l (m + 1) h4 i (by simpa using hi)
theorem t_PC_st {M : Nat → Int → Int} {l : List t_t} {n : Int} (h : t_PC M 0 (l ++ [(0, n, 0, 0, 0)])) : ∀ i : Int, 0 ≤ i → i ≤ l.length → M 3 i = (t_st l n i).1 ∧ M 4 i = (t_st l n i).2.1 ∧ M 5 i = (t_st l n i).2.2.1 := fun i a b => by
  have := t_PC_at (df := (0, n, 0, 0, 0)) _ 0 h i.toNat (by simp; omega)
  rw [show (0 : Int) + (i.toNat : Int) = i by omega] at this
  exact this
theorem t_PR_st {M : Nat → Int → Int} {l : List t_t} {n : Int} (h : t_PR M 0 (l ++ [(0, n, 0, 0, 0)])) : ∀ i : Int, 0 ≤ i → i ≤ l.length → M 83 i = (t_st l n i).2.2.2.1 ∧ M 84 i = (t_st l n i).2.1 ∧ M 85 i = (t_st l n i).2.2.2.2 := fun i a b => by
  have := t_PR_at (df := (0, n, 0, 0, 0)) _ 0 h i.toNat (by simp; omega)
  rw [show (0 : Int) + (i.toNat : Int) = i by omega] at this
  exact this

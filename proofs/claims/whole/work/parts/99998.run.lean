/-! THE LAW'S RUN -/
theorem tb_eX_in {L : Nat} {xs : Nat → Int32} (hL : L ≤ 3072) (j : Nat) : (tb_eX L xs j).1 ≤ 1000000 := by
  unfold tb_eX
  split
  · show L ≤ 1000000
    omega
  · decide
  · decide
  · decide
  · decide
theorem n_all {n : Nat} {f g : Nat → Int} (h : (List.range n).all (fun i => f i == g i) = true) : ∀ i : Nat, i < n → f i = g i := fun i hi => by
  have := List.all_eq_true.mp h i (List.mem_range.mpr hi)
  simpa using this
theorem tb_n_X {L : Nat} {xs : Nat → Int32} : n_X (tb_eX L xs) := by
  refine ⟨⟨rfl, n_all ?_⟩, ⟨rfl, n_all ?_⟩, ⟨rfl, n_all ?_⟩⟩
  · show (List.range 12).all (fun i => (tb_NN.getD i 0).toInt == n_nn i) = true
    decide
  · show (List.range 5).all (fun i => (tb_CO.getD i 0).toInt == n_co i) = true
    decide
  · show (List.range 18).all (fun i => (tb_BY.getD i 0).toInt == n_by i) = true
    decide
/-- functions are kept where only other references change -/
theorem fnP_h {ρ ρ' : Nat → Option xk} {e e' sl sl' : Nat} {M M' : Nat → Int → Int} {R R' : Nat → Int → Option Nat} (h : fnP (ρ, e, M, R, sl)) (g1 : ∀ i, i < e → ρ' i = ρ i) (g2 : e ≤ e') (g3 : ∀ (x : Nat) (j : Int), (86 ≤ x ∧ x ≤ 118) ∨ (174 ≤ x ∧ x < e + 174) → M' x j = M x j) (g4 : M' 0 9 ≤ M 0 9 ∧ gK M M') (g5 : ∀ (x : Nat) (i : Int), x = 7 ∨ 174 ≤ x → x < e + 174 → R' x i = R x i) : fnP (ρ', e', M', R', sl') := by
  obtain ⟨a1, a2, a3⟩ := fnP_g ρ e M R sl ρ' e' M' R sl' h ⟨g1, g2, g3, g4, fun _ _ _ => rfl⟩
  have r7 : ∀ k, R' 7 k = R 7 k := fun k => g5 7 k (.inl rfl) (by omega)
  refine ⟨fun k k0 k1 => ?_, fun k k' q u1 u2 u3 u4 w => ?_, fun k k0 k8 k1 => ?_⟩
  · rcases h.1 k k0 k1 with q | ⟨q, q1, ⟨q2, q3, q4⟩, q5⟩
    · exact .inl (by dsimp only at q ⊢; rw [r7]; exact q)
    · dsimp only at q1 q2 q3 q4 q5 ⊢
      exact .inr ⟨q, by rw [r7]; exact q1, ⟨by rw [g1 q (by omega)]; exact q2, by rw [g1 (q + 1) (by omega)]; exact q3, by rw [g5 (q + 174) 0 (.inr (by omega)) (by omega)]; exact q4⟩, by omega⟩
  · dsimp only
    rw [r7, r7]
    exact a2 k k' q u1 u2 u3 u4 w
  · obtain ⟨q, q1, q2⟩ := a3 k k0 k8 k1
    exact ⟨q, by dsimp only at q1 ⊢; rw [r7]; exact q1, q2⟩
/-- what the loop keeps holds in the first state -/
theorem oP0 : oP (fun _ => none, 0, tb_M0, tb_R0, 159584) := by
  refine ⟨⟨⟨fun k _ _ => .inl rfl, fun k k' q _ _ _ _ _ h => ?_, fun f f0 _ f1 => ?_⟩, ⟨⟨fun _ => -1, ⟨fun k _ _ => .inl rfl, fun k _ _ => .inl rfl, fun i hi => ?_⟩, fun k _ _ q h => ?_⟩, ⟨.inl ⟨rfl, rfl⟩, .inl ⟨rfl, rfl⟩⟩, ⟨fun k _ => .inl rfl, fun i j _ _ _ p h => ?_⟩⟩⟩, fun h => ?_, fun f f0 f1 => ?_⟩
  · cases h
  · have : f < (0 : Int) := f1
    omega
  · dsimp only
    have hi : i = 0 ∨ i = 1 ∨ i = 2 ∨ i = 3 ∨ i = 4 ∨ i = 5 ∨ i = 6 ∨ i = 7 := by omega
    rcases hi with rfl | rfl | rfl | rfl | rfl | rfl | rfl | rfl <;> rfl
  · cases h
  · cases h
  · have : (0 : Int) = 1 := h
    omega
  · have : f < (0 : Int) := f1
    omega
theorem law_run {L : Nat} {xs : Nat → Int32} (hL : L ≤ 3072) : mm_call tb_P (tb_eX L xs) 1200 0 [.ref 0] [] 0 (fun o _ _ => o = .inl (some (.int 1))) := by
  have hE := tb_eX_in (xs := xs) hL
  have hX := tb_n_X (L := L) (xs := xs)
  refine law_run4 (P := oP) hL hE rfl oP_g oP0 ?_ ?_ ?_ ?_
  · intro d Q ρ e M R sl i t h0 h6 ht h hP hr hK
    exact la_define (d := d + 899) hE hX h0 h6 ht h hP.1.1 hr (fun ρ1 e1 M1 R1 sl1 g1 g2 a b c => hK ρ1 e1 M1 R1 sl1 a ⟨⟨b, hPo_d hP.1.2 hP.1.1 g1⟩, wAc_d hP.2.1 g2.1, g2.2 hP.2.2⟩ c)
  · intro d Q ρ e M R sl i t h0 h6 ht h hP hr hK
    exact la_check (d := d + 298) hE hX h0 h6 ht h hP hr hK
  · intro d Q ρ e M R sl i t h0 h6 ht h hP hr hK
    exact la_run (d := d + 1080) hE h0 h6 ht rfl rfl rfl h hP hr hK
  · intro d Q ρ e M R sl i t h0 h6 ht h hP hr hK
    refine la_ask (d := d + 1091) hE h0 h6 ht rfl rfl rfl rfl h hP.1.2.2.1 hr (fun ρ1 e1 M1 R1 sl1 a b c => hK ρ1 e1 M1 R1 sl1 a ⟨⟨?_, nP_h hP.1.2 hP.1.1 c⟩, wAc_k hP.2.1 c.2.2.2.1.2 (fun x j p q => c.2.2.1 x j (by omega)), nAl_y (n := M 0 9) hP.2.2 c.2.2.2.1.1 c.2.2.2.1.1 (dY_of (fun x j p q => c.2.2.1 x j (by omega)))⟩ b)
    obtain ⟨c1, c2, c3, c4, c5, c6⟩ := c
    exact fnP_h hP.1.1 c1 c2 c3 c4 (fun x i q z => c5 x i (by omega) z)

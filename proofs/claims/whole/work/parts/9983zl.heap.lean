/-! AFTER CHECK: functions are what they were, but for marks -/
theorem fXt_M {T T' F : Int → Int} {z : Int} (h : tM T T') (q : fXt T F z) : fXt T' F z := by
  obtain ⟨tt, w, x1, x2, x3, x4, x5, x6⟩ := q
  have t0 : ∀ n, T' (n * 9 + 0) = T (n * 9 + 0) := fun n => tM_i h n 0 (by omega) (by omega) (by omega) (by omega)
  have t1 : ∀ n, T' (n * 9 + 1) = T (n * 9 + 1) := fun n => tM_i h n 1 (by omega) (by omega) (by omega) (by omega)
  refine ⟨tt, w, ht_M h x1, x2, x3, fun n m n0 n1 m0 m1 a b c => ?_, fun n n0 n1 a => ?_, fun L p => ?_⟩
  · rw [t0] at a b
    rw [t1, t1] at c
    exact x4 n m n0 n1 m0 m1 a b c
  · rw [t0] at a
    rw [t1]
    exact x5 n n0 n1 a
  · rw [c_em_l h (q := p)]
    exact x6 L p
theorem fR_M {f z : Int} {M : Nat → Int → Int} {T T' F : Int → Int} (h : tM T T') (q : fR f M T F z) : fR f M T' F z := by
  obtain ⟨N, L, P, x, a1, ⟨b1, b2, b3, b4, b5, b6⟩, ⟨c1, c2, c3, c4, c5⟩, ⟨d1, d2, d3, d4, d5, d6⟩, ⟨e1, e2, e3⟩, ⟨g1, g3⟩, g2⟩ := q
  exact ⟨N, L, P, x, a1, ⟨b1, b2, b3, nmW_M h b4, b5, b6⟩, ⟨c1, c2, psC_M h c3, c4, c5⟩, ⟨d1, d2, d3, paW_M h d4, d5, d6⟩, ⟨tyC_M h e1, e2, e3⟩, ⟨g1, fXt_M h g3⟩, e_n_M h g2⟩
/-- the tables as they were: functions stay -/
theorem fR_s {f z : Int} {M M' : Nat → Int → Int} {T F : Int → Int} (h : ∀ x, 86 ≤ x → x ≤ 118 → x ≠ 103 → M' x = M x) (q : fR f (mf f M) T F z) : fR f (mf f M') T F z := by
  have e1 : ∀ x, 86 ≤ x → x ≤ 118 → x ≠ 103 → mf f M' x = mf f M x := fun x u v w => by
    rw [mf_ne (by omega), mf_ne (by omega)]
    exact h x u v w
  obtain ⟨p1, p2, p3, p4, p5, p6, p7⟩ := mf_c (f := f) (M := M)
  obtain ⟨s1, s2, s3, s4, s5, s6, s7⟩ := mf_c (f := f) (M := M')
  exact fR_t q ⟨⟨by omega, fun x i u v _ => by rw [e1 x (by omega) (by omega) (by omega)]⟩, ⟨by omega, fun x i u v _ => by rw [e1 x (by omega) (by omega) (by omega)]⟩, ⟨by omega, fun x i u v _ => by rw [e1 x (by omega) (by omega) (by omega)]⟩, ⟨by omega, fun x i u v _ => by rw [e1 x (by omega) (by omega) (by omega)]⟩, ⟨by omega, fun x i u v _ => by rw [e1 x (by omega) (by omega) (by omega)]⟩, by omega, (fun i _ => by rw [e1 118 (by decide) (by decide) (by decide)]), by omega⟩ (fun x hx => by rw [e1 x (by omega) (by omega) (by omega)]) (fun i _ _ => by rw [e1 87 (by decide) (by decide) (by decide)]) (fun x i hx _ _ => by rw [e1 x (by omega) (by omega) (by omega)])
/-- the trees of a state -/
def trS (M : Nat → Int → Int) (R : Nat → Int → Option Nat) (g : Nat) : c_t := ((R 7 (g : Int)).getD 0 - 175, M ((R 7 (g : Int)).getD 0 - 1), M ((R 7 (g : Int)).getD 0))
theorem trS_of {ρ : Nat → Option xk} {e sl : Nat} {M : Nat → Int → Int} {R : Nat → Int → Option Nat} (hf : fnP (ρ, e, M, R, sl)) (h8 : M 0 9 ≤ 8) {g : Nat} (hg : (g : Int) < M 0 9) : R 7 (g : Int) = some ((trS M R g).1 + 175) ∧ (c_T ρ R (trS M R g).1 ∧ (trS M R g).1 + 2 ≤ e) ∧ M ((trS M R g).1 + 174) = (trS M R g).2.1 ∧ M ((trS M R g).1 + 175) = (trS M R g).2.2 ∧ (1 ≤ (trS M R g).2.1 1 ∧ (trS M R g).2.1 1 ≤ 500) ∧ fR g (mf g M) (trS M R g).2.2 (trS M R g).2.1 ((trS M R g).2.1 1) := by
  obtain ⟨q, q1, q2, q3⟩ := hf.2.2 g (by omega) (by omega) hg
  dsimp only at q1 q2 q3
  have e1 : trS M R g = (q, M (q + 174), M (q + 175)) := by
    unfold trS
    rw [q1, Option.getD_some, Nat.add_sub_cancel, show q + 175 - 1 = q + 174 by omega]
  rw [e1]
  refine ⟨q1, ?_, rfl, rfl, q2, q3⟩
  rcases hf.1 g (by omega) (by omega) with z | ⟨q', z1, z2, z3⟩
  · dsimp only at z; rw [q1] at z; cases z
  · dsimp only at z1 z2 z3
    rw [q1] at z1
    injection z1 with z1
    have : q' = q := by omega
    subst this
    exact ⟨z2, z3⟩
theorem trS_wT {ρ : Nat → Option xk} {e sl : Nat} {M : Nat → Int → Int} {R : Nat → Int → Option Nat} {ow : Nat → Int} {fs : Nat} (hf : fnP (ρ, e, M, R, sl)) (h8 : M 0 9 ≤ 8) (h9 : M 0 9 = fs) (ho : ∀ k, 0 ≤ k → k ≤ 8 → ∀ q : Nat, R 7 k = some (q + 175) → ow (q + 174) = -1 ∧ ow (q + 175) = -1) : wT fs (trS M R) ρ e M R ow := by
  refine ⟨fun k hk => ?_, fun i j hi hj hij he => ?_⟩
  · obtain ⟨a1, ⟨a2, a3⟩, a4, a5, a6, a7⟩ := trS_of hf h8 (g := k) (by omega)
    have o := ho k (by omega) (by omega) _ a1
    exact ⟨⟨a1, a2, a3, o.1, o.2⟩, a4, by rw [a5]; exact tM_rf⟩
  · obtain ⟨a1, -⟩ := trS_of hf h8 (g := i) (by omega)
    obtain ⟨b1, -⟩ := trS_of hf h8 (g := j) (by omega)
    have := hf.2.1 i j _ (by omega) (by omega) (by omega) (by omega) (by omega) a1
    dsimp only at this
    rw [he] at this
    exact this b1

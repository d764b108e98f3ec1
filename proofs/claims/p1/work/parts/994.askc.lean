/-! THE CLASS'S SOLVER, for one row at most. By wip/mkask.py. -/
def q_P1 (A B : Nat → Int64) (i : Nat) : Prop := (∀ j, 1 ≤ j → j < i → ((B j).toInt = 0 ↔ (A j).toInt = 0) ∧ (B j).toInt.natAbs ≤ (A j).toInt.natAbs) ∧ (∀ j, j = 0 ∨ i ≤ j → B j = A j)
theorem q_P1_zero (A : Nat → Int64) : q_P1 A A 1 := ⟨fun j h1 h2 => absurd h1 (by omega), fun _ _ => rfl⟩
theorem q_P1_step {A B : Nat → Int64} {i k1 k2 : Nat} {z : Int64} (h : q_P1 A B i) (hi : 1 ≤ i) (e1 : k1 = i) (e2 : k2 = i) (hz : 0 < z.toInt) (hd : z.toInt ∣ (A i).toInt) (hA : (A i).toInt.natAbs ≤ 1000000000) : q_P1 A (vp_updL B k1 (B k2 / z)) (i + 1) := by
  subst e1 e2
  obtain ⟨h1, h2⟩ := h
  refine ⟨fun j hj0 hj => ?_, fun j hj => ?_⟩
  · unfold vp_updL
    by_cases hjk : j = k2
    · subst hjk
      rw [if_pos rfl, h2 j (.inr (Nat.le_refl j))]
      exact ⟨q_div_zero hz hd (by omega), q_div_abs (by omega)⟩
    · rw [if_neg hjk]
      exact h1 j hj0 (by omega)
  · unfold vp_updL
    rw [if_neg (by omega)]
    exact h2 j (by omega)
section
variable {ln : Int32} {lf : Nat → Int32} {sr : Nat → Int32} {ss : Nat → Int32} {sc : Nat → Int32} {gv : Int32} {r1 : Nat} {r2 : Nat} {kp : Int32} {wd : Int32} {tm : Int32} {fa : Int32} {R : Nat → Int64} {O : Nat → Int64} {W : Nat → Int64} {ax : Nat → Int64} {mt : Int32} {ml : Int32} {mr : Int32} {mfr : Int32} {mfa : Int32} {mf : Nat → Int32} {mg : Nat → Int64} {mR : Nat → Int64} {mF : Nat → Int64} {mT : Nat → Int64} {m1 : Nat → Int32} {m2 : Nat → Int32} {m3 : Nat → Int32} {ou : Nat → Int64}
set_option maxRecDepth 100000 in
set_option maxHeartbeats 40000000 in
theorem lp_101e {L : Nat} {xs : Nat → Int32} {d sl : Nat} {Q : mm_K} {g : List va_E} {k : Int32} : ∀ (t st N : Nat) (x y : Int64), 0 ≤ x.toInt → 0 ≤ y.toInt → q_E t x.toInt.natAbs y.toInt.natAbs → st + t < 200 → (∀ r : Int64, r.toInt = ((Nat.gcd x.toInt.natAbs y.toInt.natAbs : Nat) : Int) → mm_w tb_P L xs (mm_call tb_P L xs d) 101 N 66 [(1, .long r), (3, .int k), (0, .ref 57)] [] g sl Q) → mm_w tb_P L xs (mm_call tb_P L xs d) 101 (N + 40 * t + 40) 32 [(6, .int (Int32.ofNat st)), (4, .long y), (1, .long x), (3, .int k), (0, .ref 57)] [] g sl Q
  | 0, st, N, x, y, hx, hy, ht, hst, hK => by
    have h0 : y.toInt.natAbs = 0 := ht
    show mm_w tb_P L xs (mm_call tb_P L xs d) 101 (N + 40) 32 [(6, .int (Int32.ofNat st)), (4, .long y), (1, .long x), (3, .int k), (0, .ref 57)] [] g sl Q
    refine mm_on (fun k pc => (Nat.beq k 101 && Nat.beq pc 32) || (Nat.beq k 101 && Nat.beq pc 66)) (fun _ => false) (fun F C hF hC => ?_)
    conv => whnf
    refine br_f (by first | decide | ((try simp only [lg_cmp_ge, lg_cmp_le, lg_cmp_gt, lg_cmp_lt, lg_cmp_eq]) <;> (try simp only [show (Int8.ofInt 40).toInt32 = Int32.ofNat 40 from rfl, show (Int8.ofInt 25).toInt32 = Int32.ofNat 25 from rfl, show (Int8.ofInt 24).toInt32 = Int32.ofNat 24 from rfl, show (Int16.ofInt 480).toInt32 = Int32.ofNat 480 from rfl, show Int32.ofInt 1 = Int32.ofNat 1 from rfl, show Int32.ofInt 0 = Int32.ofNat 0 from rfl, show (0 : Int32) = Int32.ofNat 0 from rfl, show (1 : Int32) = Int32.ofNat 1 from rfl]) <;> (try simp only [← Int32.ofNat_add, ← Int32.ofNat_mul]) <;> (try simp (disch := omega) only [q_cl, q_on, Nat.mul_zero, Nat.zero_mul, Nat.zero_add, Nat.add_zero, Nat.mul_one]) <;> (try simp only [Int32.lt_iff_toInt_lt, Int32.le_iff_toInt_le, ← Int32.toInt_inj, Int64.lt_iff_toInt_lt, Int64.le_iff_toInt_le, ← Int64.toInt_inj, ← Int32.toNat_toInt, mm_k0, mm_k1, mm_K0, mm_K1, mm_K2, Int32.toInt_toInt64, List.length_cons, List.length_nil, vp_updL, upd, ↓reduceIte, not_true_eq_false, not_false_eq_true, mm_x0, mm_K3]) <;> (try simp (disch := omega) only [q_on, q_cl]) <;> omega) | fail) ?_
    conv => whnf
    refine br_t (by first | decide | ((try simp only [lg_cmp_ge, lg_cmp_le, lg_cmp_gt, lg_cmp_lt, lg_cmp_eq]) <;> (try simp only [show (Int8.ofInt 40).toInt32 = Int32.ofNat 40 from rfl, show (Int8.ofInt 25).toInt32 = Int32.ofNat 25 from rfl, show (Int8.ofInt 24).toInt32 = Int32.ofNat 24 from rfl, show (Int16.ofInt 480).toInt32 = Int32.ofNat 480 from rfl, show Int32.ofInt 1 = Int32.ofNat 1 from rfl, show Int32.ofInt 0 = Int32.ofNat 0 from rfl, show (0 : Int32) = Int32.ofNat 0 from rfl, show (1 : Int32) = Int32.ofNat 1 from rfl]) <;> (try simp only [← Int32.ofNat_add, ← Int32.ofNat_mul]) <;> (try simp (disch := omega) only [q_cl, q_on, Nat.mul_zero, Nat.zero_mul, Nat.zero_add, Nat.add_zero, Nat.mul_one]) <;> (try simp only [Int32.lt_iff_toInt_lt, Int32.le_iff_toInt_le, ← Int32.toInt_inj, Int64.lt_iff_toInt_lt, Int64.le_iff_toInt_le, ← Int64.toInt_inj, ← Int32.toNat_toInt, mm_k0, mm_k1, mm_K0, mm_K1, mm_K2, Int32.toInt_toInt64, List.length_cons, List.length_nil, vp_updL, upd, ↓reduceIte, not_true_eq_false, not_false_eq_true, mm_x0, mm_K3]) <;> (try simp (disch := omega) only [q_on, q_cl]) <;> omega) | fail) ?_
    conv => whnf
    exact hF _ _ _ _ _ _ _ _ _ (mm_more (hK x (by rw [h0, Nat.gcd_zero_right]; omega)) (Nat.le_add_right N _) rfl ⟨rfl, rfl, rfl, trivial⟩)
  | t + 1, st, N, x, y, hx, hy, ht, hst, hK => by
    by_cases h0 : y.toInt = 0
    · refine mm_more (n := N + 40) (ls := [(6, .int (Int32.ofNat st)), (4, .long y), (1, .long x), (3, .int k), (0, .ref 57)]) ?_ (by omega) rfl ⟨rfl, rfl, rfl, rfl, rfl, trivial⟩
      refine mm_on (fun k pc => (Nat.beq k 101 && Nat.beq pc 32) || (Nat.beq k 101 && Nat.beq pc 66)) (fun _ => false) (fun F C hF hC => ?_)
      conv => whnf
      refine br_f (by first | decide | ((try simp only [lg_cmp_ge, lg_cmp_le, lg_cmp_gt, lg_cmp_lt, lg_cmp_eq]) <;> (try simp only [show (Int8.ofInt 40).toInt32 = Int32.ofNat 40 from rfl, show (Int8.ofInt 25).toInt32 = Int32.ofNat 25 from rfl, show (Int8.ofInt 24).toInt32 = Int32.ofNat 24 from rfl, show (Int16.ofInt 480).toInt32 = Int32.ofNat 480 from rfl, show Int32.ofInt 1 = Int32.ofNat 1 from rfl, show Int32.ofInt 0 = Int32.ofNat 0 from rfl, show (0 : Int32) = Int32.ofNat 0 from rfl, show (1 : Int32) = Int32.ofNat 1 from rfl]) <;> (try simp only [← Int32.ofNat_add, ← Int32.ofNat_mul]) <;> (try simp (disch := omega) only [q_cl, q_on, Nat.mul_zero, Nat.zero_mul, Nat.zero_add, Nat.add_zero, Nat.mul_one]) <;> (try simp only [Int32.lt_iff_toInt_lt, Int32.le_iff_toInt_le, ← Int32.toInt_inj, Int64.lt_iff_toInt_lt, Int64.le_iff_toInt_le, ← Int64.toInt_inj, ← Int32.toNat_toInt, mm_k0, mm_k1, mm_K0, mm_K1, mm_K2, Int32.toInt_toInt64, List.length_cons, List.length_nil, vp_updL, upd, ↓reduceIte, not_true_eq_false, not_false_eq_true, mm_x0, mm_K3]) <;> (try simp (disch := omega) only [q_on, q_cl]) <;> omega) | fail) ?_
      conv => whnf
      refine br_t (by first | decide | ((try simp only [lg_cmp_ge, lg_cmp_le, lg_cmp_gt, lg_cmp_lt, lg_cmp_eq]) <;> (try simp only [show (Int8.ofInt 40).toInt32 = Int32.ofNat 40 from rfl, show (Int8.ofInt 25).toInt32 = Int32.ofNat 25 from rfl, show (Int8.ofInt 24).toInt32 = Int32.ofNat 24 from rfl, show (Int16.ofInt 480).toInt32 = Int32.ofNat 480 from rfl, show Int32.ofInt 1 = Int32.ofNat 1 from rfl, show Int32.ofInt 0 = Int32.ofNat 0 from rfl, show (0 : Int32) = Int32.ofNat 0 from rfl, show (1 : Int32) = Int32.ofNat 1 from rfl]) <;> (try simp only [← Int32.ofNat_add, ← Int32.ofNat_mul]) <;> (try simp (disch := omega) only [q_cl, q_on, Nat.mul_zero, Nat.zero_mul, Nat.zero_add, Nat.add_zero, Nat.mul_one]) <;> (try simp only [Int32.lt_iff_toInt_lt, Int32.le_iff_toInt_le, ← Int32.toInt_inj, Int64.lt_iff_toInt_lt, Int64.le_iff_toInt_le, ← Int64.toInt_inj, ← Int32.toNat_toInt, mm_k0, mm_k1, mm_K0, mm_K1, mm_K2, Int32.toInt_toInt64, List.length_cons, List.length_nil, vp_updL, upd, ↓reduceIte, not_true_eq_false, not_false_eq_true, mm_x0, mm_K3]) <;> (try simp (disch := omega) only [q_on, q_cl]) <;> omega) | fail) ?_
      conv => whnf
      exact hF _ _ _ _ _ _ _ _ _ (mm_more (hK x (by rw [h0]; show x.toInt = ((Nat.gcd x.toInt.natAbs 0 : Nat) : Int); rw [Nat.gcd_zero_right]; omega)) (Nat.le_add_right N _) rfl ⟨rfl, rfl, rfl, trivial⟩)
    · have hy' : 0 < y.toInt := by omega
      have ht' : q_E t y.toInt.natAbs (x.toInt.natAbs % y.toInt.natAbs) := by
        rcases ht with h | h
        · exact absurd h (by omega)
        · exact h
      have e := q_rem64 hx hy'
      have e2 := Int.emod_lt_of_pos x.toInt hy'
      have e3 := Int.emod_nonneg x.toInt (b := y.toInt) (by omega)
      have e4 : (x.toInt % y.toInt).natAbs = x.toInt.natAbs % y.toInt.natAbs := by
        obtain ⟨X, hX⟩ := Int.eq_ofNat_of_zero_le hx
        obtain ⟨Y, hY⟩ := Int.eq_ofNat_of_zero_le hy
        rw [hX, hY, ← Int.natCast_emod]
        rfl
      have ih := lp_101e (k := k) t (st + 1) N y (x - x / y * y) hy (by omega) (by rw [e, e4]; exact ht') (by omega) (fun r hr => hK r (by rw [hr, e, q_gcd hx hy']))
      show mm_w tb_P L xs (mm_call tb_P L xs d) 101 (N + 40 * t + 40 + 40) 32 [(6, .int (Int32.ofNat st)), (4, .long y), (1, .long x), (3, .int k), (0, .ref 57)] [] g sl Q
      generalize N + 40 * t + 40 = N' at ih
      refine mm_on (fun k pc => (Nat.beq k 101 && Nat.beq pc 32) || (Nat.beq k 101 && Nat.beq pc 66)) (fun _ => false) (fun F C hF hC => ?_)
      conv => whnf
      refine br_f (by first | decide | ((try simp only [lg_cmp_ge, lg_cmp_le, lg_cmp_gt, lg_cmp_lt, lg_cmp_eq]) <;> (try simp only [show (Int8.ofInt 40).toInt32 = Int32.ofNat 40 from rfl, show (Int8.ofInt 25).toInt32 = Int32.ofNat 25 from rfl, show (Int8.ofInt 24).toInt32 = Int32.ofNat 24 from rfl, show (Int16.ofInt 480).toInt32 = Int32.ofNat 480 from rfl, show Int32.ofInt 1 = Int32.ofNat 1 from rfl, show Int32.ofInt 0 = Int32.ofNat 0 from rfl, show (0 : Int32) = Int32.ofNat 0 from rfl, show (1 : Int32) = Int32.ofNat 1 from rfl]) <;> (try simp only [← Int32.ofNat_add, ← Int32.ofNat_mul]) <;> (try simp (disch := omega) only [q_cl, q_on, Nat.mul_zero, Nat.zero_mul, Nat.zero_add, Nat.add_zero, Nat.mul_one]) <;> (try simp only [Int32.lt_iff_toInt_lt, Int32.le_iff_toInt_le, ← Int32.toInt_inj, Int64.lt_iff_toInt_lt, Int64.le_iff_toInt_le, ← Int64.toInt_inj, ← Int32.toNat_toInt, mm_k0, mm_k1, mm_K0, mm_K1, mm_K2, Int32.toInt_toInt64, List.length_cons, List.length_nil, vp_updL, upd, ↓reduceIte, not_true_eq_false, not_false_eq_true, mm_x0, mm_K3]) <;> (try simp (disch := omega) only [q_on, q_cl]) <;> omega) | fail) ?_
      conv => whnf
      refine br_f (by first | decide | ((try simp only [lg_cmp_ge, lg_cmp_le, lg_cmp_gt, lg_cmp_lt, lg_cmp_eq]) <;> (try simp only [show (Int8.ofInt 40).toInt32 = Int32.ofNat 40 from rfl, show (Int8.ofInt 25).toInt32 = Int32.ofNat 25 from rfl, show (Int8.ofInt 24).toInt32 = Int32.ofNat 24 from rfl, show (Int16.ofInt 480).toInt32 = Int32.ofNat 480 from rfl, show Int32.ofInt 1 = Int32.ofNat 1 from rfl, show Int32.ofInt 0 = Int32.ofNat 0 from rfl, show (0 : Int32) = Int32.ofNat 0 from rfl, show (1 : Int32) = Int32.ofNat 1 from rfl]) <;> (try simp only [← Int32.ofNat_add, ← Int32.ofNat_mul]) <;> (try simp (disch := omega) only [q_cl, q_on, Nat.mul_zero, Nat.zero_mul, Nat.zero_add, Nat.add_zero, Nat.mul_one]) <;> (try simp only [Int32.lt_iff_toInt_lt, Int32.le_iff_toInt_le, ← Int32.toInt_inj, Int64.lt_iff_toInt_lt, Int64.le_iff_toInt_le, ← Int64.toInt_inj, ← Int32.toNat_toInt, mm_k0, mm_k1, mm_K0, mm_K1, mm_K2, Int32.toInt_toInt64, List.length_cons, List.length_nil, vp_updL, upd, ↓reduceIte, not_true_eq_false, not_false_eq_true, mm_x0, mm_K3]) <;> (try simp (disch := omega) only [q_on, q_cl]) <;> omega) | fail) ?_
      conv => whnf
      refine And.intro (fun h => h0 (by rw [h]; rfl)) ?_
      conv => whnf
      rw [q_inc]
      exact hF _ _ _ _ _ _ _ _ _ (mm_more ih (Nat.le_add_right N' _) rfl ⟨rfl, rfl, rfl, rfl, rfl, trivial⟩)
set_option maxRecDepth 100000 in
set_option maxHeartbeats 40000000 in
theorem lp_101a {L : Nat} {xs : Nat → Int32} {d sl : Nat} {Q : mm_K} {w : Nat} (hw : 1 ≤ w) (hw2 : w ≤ 25) (hW : ∀ j, 1 ≤ j → j < w → (W j).toInt.natAbs ≤ 1000) (hK : ∀ z : Int64, z.toInt = ((q_gs (fun j => W (j + 1)) (w - 1) : Nat) : Int) → mm_w tb_P L xs (mm_call tb_P L xs (d + 1)) 101 20000 72 [(1, .long z), (0, .ref 57)] [] (tb_H ln lf sr ss sc gv r1 r2 kp (Int32.ofNat w) tm fa R O W ax mt ml mr mfr mfa mf mg mR mF mT m1 m2 m3 ou) sl Q) : ∀ (t i N : Nat) (z : Int64), i + t + 1 = w → 2000 * t + 20040 ≤ N → z.toInt = ((q_gs (fun j => W (j + 1)) i : Nat) : Int) → mm_w tb_P L xs (mm_call tb_P L xs (d + 1)) 101 N 4 [(3, .int (Int32.ofNat (i + 1))), (1, .long z), (0, .ref 57)] [] (tb_H ln lf sr ss sc gv r1 r2 kp (Int32.ofNat w) tm fa R O W ax mt ml mr mfr mfa mf mg mR mF mT m1 m2 m3 ou) sl Q
  | 0, i, N, z, hi, hN, hz => by
    obtain ⟨N', rfl⟩ : ∃ N', N = N' + 40 := ⟨N - 40, by omega⟩
    obtain rfl : w = i + 1 := by omega
    refine mm_on (fun k pc => (Nat.beq k 101 && Nat.beq pc 4) || (Nat.beq k 101 && Nat.beq pc 72) || (Nat.beq k 101 && Nat.beq pc 32)) (fun _ => false) (fun F C hF hC => ?_)
    conv => whnf
    refine br_t (by first | decide | ((try simp only [lg_cmp_ge, lg_cmp_le, lg_cmp_gt, lg_cmp_lt, lg_cmp_eq]) <;> (try simp only [show (Int8.ofInt 40).toInt32 = Int32.ofNat 40 from rfl, show (Int8.ofInt 25).toInt32 = Int32.ofNat 25 from rfl, show (Int8.ofInt 24).toInt32 = Int32.ofNat 24 from rfl, show (Int16.ofInt 480).toInt32 = Int32.ofNat 480 from rfl, show Int32.ofInt 1 = Int32.ofNat 1 from rfl, show Int32.ofInt 0 = Int32.ofNat 0 from rfl, show (0 : Int32) = Int32.ofNat 0 from rfl, show (1 : Int32) = Int32.ofNat 1 from rfl]) <;> (try simp only [← Int32.ofNat_add, ← Int32.ofNat_mul]) <;> (try simp (disch := omega) only [q_cl, q_on, Nat.mul_zero, Nat.zero_mul, Nat.zero_add, Nat.add_zero, Nat.mul_one]) <;> (try simp only [Int32.lt_iff_toInt_lt, Int32.le_iff_toInt_le, ← Int32.toInt_inj, Int64.lt_iff_toInt_lt, Int64.le_iff_toInt_le, ← Int64.toInt_inj, ← Int32.toNat_toInt, mm_k0, mm_k1, mm_K0, mm_K1, mm_K2, Int32.toInt_toInt64, List.length_cons, List.length_nil, vp_updL, upd, ↓reduceIte, not_true_eq_false, not_false_eq_true, mm_x0, mm_K3]) <;> (try simp (disch := omega) only [q_on, q_cl]) <;> omega) | fail) ?_
    conv => whnf
    exact hF _ _ _ _ _ _ _ _ _ (mm_more (hK z hz) (by omega) rfl ⟨rfl, rfl, trivial⟩)
  | t + 1, i, N, z, hi, hN, hz => by
    obtain ⟨N', rfl⟩ : ∃ N', N = N' + 2000 := ⟨N - 2000, by omega⟩
    have hg := q_gs_le (W := (fun j => W (j + 1))) (B := 1000) i (fun j hj => hW (j + 1) (by omega) (by omega))
    have hb := hW (i + 1) (by omega) (by omega)
    refine mm_on (fun k pc => (Nat.beq k 101 && Nat.beq pc 4) || (Nat.beq k 101 && Nat.beq pc 72) || (Nat.beq k 101 && Nat.beq pc 32)) (fun _ => true) (fun F C hF hC => ?_)
    conv => whnf
    refine br_f (by first | decide | ((try simp only [lg_cmp_ge, lg_cmp_le, lg_cmp_gt, lg_cmp_lt, lg_cmp_eq]) <;> (try simp only [show (Int8.ofInt 40).toInt32 = Int32.ofNat 40 from rfl, show (Int8.ofInt 25).toInt32 = Int32.ofNat 25 from rfl, show (Int8.ofInt 24).toInt32 = Int32.ofNat 24 from rfl, show (Int16.ofInt 480).toInt32 = Int32.ofNat 480 from rfl, show Int32.ofInt 1 = Int32.ofNat 1 from rfl, show Int32.ofInt 0 = Int32.ofNat 0 from rfl, show (0 : Int32) = Int32.ofNat 0 from rfl, show (1 : Int32) = Int32.ofNat 1 from rfl]) <;> (try simp only [← Int32.ofNat_add, ← Int32.ofNat_mul]) <;> (try simp (disch := omega) only [q_cl, q_on, Nat.mul_zero, Nat.zero_mul, Nat.zero_add, Nat.add_zero, Nat.mul_one]) <;> (try simp only [Int32.lt_iff_toInt_lt, Int32.le_iff_toInt_le, ← Int32.toInt_inj, Int64.lt_iff_toInt_lt, Int64.le_iff_toInt_le, ← Int64.toInt_inj, ← Int32.toNat_toInt, mm_k0, mm_k1, mm_K0, mm_K1, mm_K2, Int32.toInt_toInt64, List.length_cons, List.length_nil, vp_updL, upd, ↓reduceIte, not_true_eq_false, not_false_eq_true, mm_x0, mm_K3]) <;> (try simp (disch := omega) only [q_on, q_cl]) <;> omega) | fail) ?_
    conv => whnf
    by_cases h1 : z.toInt = 1
    · refine br_t (by first | decide | ((try simp only [lg_cmp_ge, lg_cmp_le, lg_cmp_gt, lg_cmp_lt, lg_cmp_eq]) <;> (try simp only [show (Int8.ofInt 40).toInt32 = Int32.ofNat 40 from rfl, show (Int8.ofInt 25).toInt32 = Int32.ofNat 25 from rfl, show (Int8.ofInt 24).toInt32 = Int32.ofNat 24 from rfl, show (Int16.ofInt 480).toInt32 = Int32.ofNat 480 from rfl, show Int32.ofInt 1 = Int32.ofNat 1 from rfl, show Int32.ofInt 0 = Int32.ofNat 0 from rfl, show (0 : Int32) = Int32.ofNat 0 from rfl, show (1 : Int32) = Int32.ofNat 1 from rfl]) <;> (try simp only [← Int32.ofNat_add, ← Int32.ofNat_mul]) <;> (try simp (disch := omega) only [q_cl, q_on, Nat.mul_zero, Nat.zero_mul, Nat.zero_add, Nat.add_zero, Nat.mul_one]) <;> (try simp only [Int32.lt_iff_toInt_lt, Int32.le_iff_toInt_le, ← Int32.toInt_inj, Int64.lt_iff_toInt_lt, Int64.le_iff_toInt_le, ← Int64.toInt_inj, ← Int32.toNat_toInt, mm_k0, mm_k1, mm_K0, mm_K1, mm_K2, Int32.toInt_toInt64, List.length_cons, List.length_nil, vp_updL, upd, ↓reduceIte, not_true_eq_false, not_false_eq_true, mm_x0, mm_K3]) <;> (try simp (disch := omega) only [q_on, q_cl]) <;> omega) | fail) ?_
      conv => whnf
      refine hF _ _ _ _ _ _ _ _ _ (mm_more (hK z ?_) (by omega) rfl ⟨rfl, rfl, trivial⟩)
      rw [h1]
      have := q_gs_one (W := (fun j => W (j + 1))) (n := i) (by omega) (w - 1 - i)
      rw [show i + (w - 1 - i) = w - 1 by omega] at this
      rw [this]
      rfl
    · refine br_f (by first | decide | ((try simp only [lg_cmp_ge, lg_cmp_le, lg_cmp_gt, lg_cmp_lt, lg_cmp_eq]) <;> (try simp only [show (Int8.ofInt 40).toInt32 = Int32.ofNat 40 from rfl, show (Int8.ofInt 25).toInt32 = Int32.ofNat 25 from rfl, show (Int8.ofInt 24).toInt32 = Int32.ofNat 24 from rfl, show (Int16.ofInt 480).toInt32 = Int32.ofNat 480 from rfl, show Int32.ofInt 1 = Int32.ofNat 1 from rfl, show Int32.ofInt 0 = Int32.ofNat 0 from rfl, show (0 : Int32) = Int32.ofNat 0 from rfl, show (1 : Int32) = Int32.ofNat 1 from rfl]) <;> (try simp only [← Int32.ofNat_add, ← Int32.ofNat_mul]) <;> (try simp (disch := omega) only [q_cl, q_on, Nat.mul_zero, Nat.zero_mul, Nat.zero_add, Nat.add_zero, Nat.mul_one]) <;> (try simp only [Int32.lt_iff_toInt_lt, Int32.le_iff_toInt_le, ← Int32.toInt_inj, Int64.lt_iff_toInt_lt, Int64.le_iff_toInt_le, ← Int64.toInt_inj, ← Int32.toNat_toInt, mm_k0, mm_k1, mm_K0, mm_K1, mm_K2, Int32.toInt_toInt64, List.length_cons, List.length_nil, vp_updL, upd, ↓reduceIte, not_true_eq_false, not_false_eq_true, mm_x0, mm_K3]) <;> (try simp (disch := omega) only [q_on, q_cl]) <;> omega) | fail) ?_
      conv => whnf
      refine And.intro (by first | decide | (unfold vp_in; decide) | ((try unfold vp_in) <;> (try simp only [lg_cmp_ge, lg_cmp_le, lg_cmp_gt, lg_cmp_lt, lg_cmp_eq]) <;> (try simp only [show (Int8.ofInt 40).toInt32 = Int32.ofNat 40 from rfl, show (Int8.ofInt 25).toInt32 = Int32.ofNat 25 from rfl, show (Int8.ofInt 24).toInt32 = Int32.ofNat 24 from rfl, show (Int16.ofInt 480).toInt32 = Int32.ofNat 480 from rfl, show Int32.ofInt 1 = Int32.ofNat 1 from rfl, show Int32.ofInt 0 = Int32.ofNat 0 from rfl, show (0 : Int32) = Int32.ofNat 0 from rfl, show (1 : Int32) = Int32.ofNat 1 from rfl]) <;> (try simp only [← Int32.ofNat_add, ← Int32.ofNat_mul]) <;> (try simp (disch := omega) only [q_cl, q_on, Nat.mul_zero, Nat.zero_mul, Nat.zero_add, Nat.add_zero, Nat.mul_one]) <;> (try simp only [Int32.lt_iff_toInt_lt, Int32.le_iff_toInt_le, ← Int32.toInt_inj, Int64.lt_iff_toInt_lt, Int64.le_iff_toInt_le, ← Int64.toInt_inj, ← Int32.toNat_toInt, mm_k0, mm_k1, mm_K0, mm_K1, mm_K2, Int32.toInt_toInt64, List.length_cons, List.length_nil, vp_updL, upd, ↓reduceIte, not_true_eq_false, not_false_eq_true, mm_x0, mm_K3]) <;> (try simp (disch := omega) only [q_on, q_cl]) <;> omega) | fail) ?_
      conv => whnf
      refine Exists.intro 100 ?_
      conv => whnf
      have key : ∀ y : Int64, y.toInt = ((W (i + 1)).toInt.natAbs : Int) → mm_w tb_P L xs (mm_call tb_P L xs (d + 1)) 101 (N' + 960) 32 [(6, .int (Int32.ofNat 0)), (4, .long y), (1, .long z), (3, .int (Int32.ofNat (i + 1))), (0, .ref 57)] [] (tb_H ln lf sr ss sc gv r1 r2 kp (Int32.ofNat w) tm fa R O W ax mt ml mr mfr mfa mf mg mR mF mT m1 m2 m3 ou) sl Q := by
        intro y hy
        refine lp_101e 21 0 (N' + 80) z y (by omega) (by omega) (q_E_all (by omega) (by omega)) (by omega) (fun r hr => ?_)
        have ih := lp_101a hw hw2 hW hK t (i + 1) N' r (by omega) (by omega) (by rw [hr, hy, hz]; rfl)
        refine mm_on (fun k pc => (Nat.beq k 101 && Nat.beq pc 4) || (Nat.beq k 101 && Nat.beq pc 72) || (Nat.beq k 101 && Nat.beq pc 32)) (fun _ => true) (fun F C hF hC => ?_)
        conv => whnf
        rw [q_inc]
        exact hF _ _ _ _ _ _ _ _ _ (mm_more ih (Nat.le_add_right N' _) rfl ⟨rfl, rfl, rfl, trivial⟩)
      refine And.intro (fun h => ?_) (fun h => ?_) <;> (simp only [lg_cmp_ge] at h) <;> (simp (disch := omega) only [Int64.le_iff_toInt_le, mm_k0, q_cl] at h) <;> conv => whnf
      · exact hF _ _ _ _ _ _ _ _ _ (mm_more (key _ (by simp (disch := omega) only [q_cl]; omega)) (Nat.add_le_add_left (by decide) N') rfl ⟨rfl, rfl, rfl, rfl, rfl, trivial⟩)
      · exact hF _ _ _ _ _ _ _ _ _ (mm_more (key _ (by simp (disch := omega) only [q_cl]; rw [q_neg64 (by omega)]; omega)) (Nat.add_le_add_left (by decide) N') rfl ⟨rfl, rfl, rfl, rfl, rfl, trivial⟩)
set_option maxRecDepth 100000 in
set_option maxHeartbeats 40000000 in
theorem lp_101b {L : Nat} {xs : Nat → Int32} {d sl : Nat} {Q : mm_K} {w : Nat} {z : Int64} {A : Nat → Int64} (hw2 : w ≤ 25) (hz : 0 < z.toInt) (hd : ∀ j, 1 ≤ j → j < w → z.toInt ∣ (A j).toInt) (hA : ∀ j, 1 ≤ j → j < w → (A j).toInt.natAbs ≤ 1000) (hK : ∀ W, q_P1 A W w → mm_w tb_P L xs (mm_call tb_P L xs d) 101 5000 104 [(1, .long z), (0, .ref 57)] [] (tb_H ln lf sr ss sc gv r1 r2 kp (Int32.ofNat w) tm fa R O W ax mt ml mr mfr mfa mf mg mR mF mT m1 m2 m3 ou) sl Q) : ∀ (t i N : Nat) (W : Nat → Int64), i + t + 1 = w → 40 * t + 5040 ≤ N → q_P1 A W (i + 1) → mm_w tb_P L xs (mm_call tb_P L xs d) 101 N 80 [(3, .int (Int32.ofNat (i + 1))), (1, .long z), (0, .ref 57)] [] (tb_H ln lf sr ss sc gv r1 r2 kp (Int32.ofNat w) tm fa R O W ax mt ml mr mfr mfa mf mg mR mF mT m1 m2 m3 ou) sl Q
  | 0, i, N, T, hi, hN, hP => by
    obtain ⟨N', rfl⟩ : ∃ N', N = N' + 40 := ⟨N - 40, by omega⟩
    obtain rfl : w = i + 1 := by omega
    refine mm_on (fun k pc => (Nat.beq k 101 && Nat.beq pc 80) || (Nat.beq k 101 && Nat.beq pc 104)) (fun _ => false) (fun F C hF hC => ?_)
    conv => whnf
    refine br_t (by first | decide | ((try simp only [lg_cmp_ge, lg_cmp_le, lg_cmp_gt, lg_cmp_lt, lg_cmp_eq]) <;> (try simp only [show (Int8.ofInt 40).toInt32 = Int32.ofNat 40 from rfl, show (Int8.ofInt 25).toInt32 = Int32.ofNat 25 from rfl, show (Int8.ofInt 24).toInt32 = Int32.ofNat 24 from rfl, show (Int16.ofInt 480).toInt32 = Int32.ofNat 480 from rfl, show Int32.ofInt 1 = Int32.ofNat 1 from rfl, show Int32.ofInt 0 = Int32.ofNat 0 from rfl, show (0 : Int32) = Int32.ofNat 0 from rfl, show (1 : Int32) = Int32.ofNat 1 from rfl]) <;> (try simp only [← Int32.ofNat_add, ← Int32.ofNat_mul]) <;> (try simp (disch := omega) only [q_cl, q_on, Nat.mul_zero, Nat.zero_mul, Nat.zero_add, Nat.add_zero, Nat.mul_one]) <;> (try simp only [Int32.lt_iff_toInt_lt, Int32.le_iff_toInt_le, ← Int32.toInt_inj, Int64.lt_iff_toInt_lt, Int64.le_iff_toInt_le, ← Int64.toInt_inj, ← Int32.toNat_toInt, mm_k0, mm_k1, mm_K0, mm_K1, mm_K2, Int32.toInt_toInt64, List.length_cons, List.length_nil, vp_updL, upd, ↓reduceIte, not_true_eq_false, not_false_eq_true, mm_x0, mm_K3]) <;> (try simp (disch := omega) only [q_on, q_cl]) <;> omega) | fail) ?_
    conv => whnf
    exact hF _ _ _ _ _ _ _ _ _ (mm_more (hK T hP) (by omega) rfl ⟨rfl, rfl, trivial⟩)
  | t + 1, i, N, T, hi, hN, hP => by
    obtain ⟨N', rfl⟩ : ∃ N', N = N' + 40 := ⟨N - 40, by omega⟩
    refine mm_on (fun k pc => (Nat.beq k 101 && Nat.beq pc 80) || (Nat.beq k 101 && Nat.beq pc 104)) (fun _ => false) (fun F C hF hC => ?_)
    conv => whnf
    refine br_f (by first | decide | ((try simp only [lg_cmp_ge, lg_cmp_le, lg_cmp_gt, lg_cmp_lt, lg_cmp_eq]) <;> (try simp only [show (Int8.ofInt 40).toInt32 = Int32.ofNat 40 from rfl, show (Int8.ofInt 25).toInt32 = Int32.ofNat 25 from rfl, show (Int8.ofInt 24).toInt32 = Int32.ofNat 24 from rfl, show (Int16.ofInt 480).toInt32 = Int32.ofNat 480 from rfl, show Int32.ofInt 1 = Int32.ofNat 1 from rfl, show Int32.ofInt 0 = Int32.ofNat 0 from rfl, show (0 : Int32) = Int32.ofNat 0 from rfl, show (1 : Int32) = Int32.ofNat 1 from rfl]) <;> (try simp only [← Int32.ofNat_add, ← Int32.ofNat_mul]) <;> (try simp (disch := omega) only [q_cl, q_on, Nat.mul_zero, Nat.zero_mul, Nat.zero_add, Nat.add_zero, Nat.mul_one]) <;> (try simp only [Int32.lt_iff_toInt_lt, Int32.le_iff_toInt_le, ← Int32.toInt_inj, Int64.lt_iff_toInt_lt, Int64.le_iff_toInt_le, ← Int64.toInt_inj, ← Int32.toNat_toInt, mm_k0, mm_k1, mm_K0, mm_K1, mm_K2, Int32.toInt_toInt64, List.length_cons, List.length_nil, vp_updL, upd, ↓reduceIte, not_true_eq_false, not_false_eq_true, mm_x0, mm_K3]) <;> (try simp (disch := omega) only [q_on, q_cl]) <;> omega) | fail) ?_
    conv => whnf
    refine And.intro (by first | decide | (unfold vp_in; decide) | ((try unfold vp_in) <;> (try simp only [lg_cmp_ge, lg_cmp_le, lg_cmp_gt, lg_cmp_lt, lg_cmp_eq]) <;> (try simp only [show (Int8.ofInt 40).toInt32 = Int32.ofNat 40 from rfl, show (Int8.ofInt 25).toInt32 = Int32.ofNat 25 from rfl, show (Int8.ofInt 24).toInt32 = Int32.ofNat 24 from rfl, show (Int16.ofInt 480).toInt32 = Int32.ofNat 480 from rfl, show Int32.ofInt 1 = Int32.ofNat 1 from rfl, show Int32.ofInt 0 = Int32.ofNat 0 from rfl, show (0 : Int32) = Int32.ofNat 0 from rfl, show (1 : Int32) = Int32.ofNat 1 from rfl]) <;> (try simp only [← Int32.ofNat_add, ← Int32.ofNat_mul]) <;> (try simp (disch := omega) only [q_cl, q_on, Nat.mul_zero, Nat.zero_mul, Nat.zero_add, Nat.add_zero, Nat.mul_one]) <;> (try simp only [Int32.lt_iff_toInt_lt, Int32.le_iff_toInt_le, ← Int32.toInt_inj, Int64.lt_iff_toInt_lt, Int64.le_iff_toInt_le, ← Int64.toInt_inj, ← Int32.toNat_toInt, mm_k0, mm_k1, mm_K0, mm_K1, mm_K2, Int32.toInt_toInt64, List.length_cons, List.length_nil, vp_updL, upd, ↓reduceIte, not_true_eq_false, not_false_eq_true, mm_x0, mm_K3]) <;> (try simp (disch := omega) only [q_on, q_cl]) <;> omega) | fail) ?_
    conv => whnf
    refine And.intro (fun h => ?_) ?_
    · rw [h] at hz
      exact absurd hz (by decide)
    conv => whnf
    refine And.intro (by first | decide | (unfold vp_in; decide) | ((try unfold vp_in) <;> (try simp only [lg_cmp_ge, lg_cmp_le, lg_cmp_gt, lg_cmp_lt, lg_cmp_eq]) <;> (try simp only [show (Int8.ofInt 40).toInt32 = Int32.ofNat 40 from rfl, show (Int8.ofInt 25).toInt32 = Int32.ofNat 25 from rfl, show (Int8.ofInt 24).toInt32 = Int32.ofNat 24 from rfl, show (Int16.ofInt 480).toInt32 = Int32.ofNat 480 from rfl, show Int32.ofInt 1 = Int32.ofNat 1 from rfl, show Int32.ofInt 0 = Int32.ofNat 0 from rfl, show (0 : Int32) = Int32.ofNat 0 from rfl, show (1 : Int32) = Int32.ofNat 1 from rfl]) <;> (try simp only [← Int32.ofNat_add, ← Int32.ofNat_mul]) <;> (try simp (disch := omega) only [q_cl, q_on, Nat.mul_zero, Nat.zero_mul, Nat.zero_add, Nat.add_zero, Nat.mul_one]) <;> (try simp only [Int32.lt_iff_toInt_lt, Int32.le_iff_toInt_le, ← Int32.toInt_inj, Int64.lt_iff_toInt_lt, Int64.le_iff_toInt_le, ← Int64.toInt_inj, ← Int32.toNat_toInt, mm_k0, mm_k1, mm_K0, mm_K1, mm_K2, Int32.toInt_toInt64, List.length_cons, List.length_nil, vp_updL, upd, ↓reduceIte, not_true_eq_false, not_false_eq_true, mm_x0, mm_K3]) <;> (try simp (disch := omega) only [q_on, q_cl]) <;> omega) | fail) ?_
    conv => whnf
    rw [q_inc]
    exact hF _ _ _ _ _ _ _ _ _ (mm_more (lp_101b hw2 hz hd hA hK t (i + 1) N' _ (by omega) (by omega) (q_P1_step hP (by omega) (by (try simp only [show (Int8.ofInt 40).toInt32 = Int32.ofNat 40 from rfl, show (Int8.ofInt 25).toInt32 = Int32.ofNat 25 from rfl, show (Int8.ofInt 24).toInt32 = Int32.ofNat 24 from rfl, show (Int16.ofInt 480).toInt32 = Int32.ofNat 480 from rfl, show Int32.ofInt 1 = Int32.ofNat 1 from rfl, show Int32.ofInt 0 = Int32.ofNat 0 from rfl, show (0 : Int32) = Int32.ofNat 0 from rfl, show (1 : Int32) = Int32.ofNat 1 from rfl]) <;> (try simp only [← Int32.ofNat_add, ← Int32.ofNat_mul]) <;> (try simp (disch := omega) only [q_cl, Nat.mul_zero, Nat.zero_mul, Nat.zero_add, Nat.add_zero, Nat.mul_one]) <;> first | rfl | omega | fail) (by (try simp only [show (Int8.ofInt 40).toInt32 = Int32.ofNat 40 from rfl, show (Int8.ofInt 25).toInt32 = Int32.ofNat 25 from rfl, show (Int8.ofInt 24).toInt32 = Int32.ofNat 24 from rfl, show (Int16.ofInt 480).toInt32 = Int32.ofNat 480 from rfl, show Int32.ofInt 1 = Int32.ofNat 1 from rfl, show Int32.ofInt 0 = Int32.ofNat 0 from rfl, show (0 : Int32) = Int32.ofNat 0 from rfl, show (1 : Int32) = Int32.ofNat 1 from rfl]) <;> (try simp only [← Int32.ofNat_add, ← Int32.ofNat_mul]) <;> (try simp (disch := omega) only [q_cl, Nat.mul_zero, Nat.zero_mul, Nat.zero_add, Nat.add_zero, Nat.mul_one]) <;> first | rfl | omega | fail) hz (hd (i + 1) (by omega) (by omega)) (by have := hA (i + 1) (by omega) (by omega); omega))) (Nat.le_add_right N' _) rfl ⟨rfl, rfl, rfl, trivial⟩)
set_option maxRecDepth 100000 in
set_option maxHeartbeats 40000000 in
theorem lp_101c {L : Nat} {xs : Nat → Int32} {d sl : Nat} {Q : mm_K} {z : Int64} (hz : 0 < z.toInt) (hT : (W 0).toInt.natAbs ≤ 100000000) (hK : ∀ v : Int64, v.toInt.natAbs ≤ (W 0).toInt.natAbs + 1 → mm_w tb_P L xs (mm_call tb_P L xs (d + 1)) 101 4500 122 [(3, .int 0), (1, .long z), (0, .ref 57)] [] (tb_H ln lf sr ss sc gv r1 r2 kp wd tm fa R O (vp_updL W 0 v) ax mt ml mr mfr mfa mf mg mR mF mT m1 m2 m3 ou) sl Q) : mm_w tb_P L xs (mm_call tb_P L xs (d + 1)) 101 5000 104 [(1, .long z), (0, .ref 57)] [] (tb_H ln lf sr ss sc gv r1 r2 kp wd tm fa R O W ax mt ml mr mfr mfa mf mg mR mF mT m1 m2 m3 ou) sl Q := by
  have q1 : (W 0 / z).toInt.natAbs ≤ (W 0).toInt.natAbs := q_div_abs (by omega)
  have q2 : (W 0 / z - 1).toInt.natAbs ≤ (W 0).toInt.natAbs + 1 := by
    rw [q_sub64 (by have : (1 : Int64).toInt = 1 := rfl; omega) (by have : (1 : Int64).toInt = 1 := rfl; omega), show (1 : Int64).toInt = 1 from rfl]
    omega
  refine mm_on (fun k pc => (Nat.beq k 101 && Nat.beq pc 122)) (fun _ => true) (fun F C hF hC => ?_)
  conv => whnf
  repeat' (first
    | exact hF _ _ _ _ _ _ _ _ _ (mm_more (hK _ (Nat.le_succ_of_le q1)) (by decide) rfl ⟨rfl, rfl, rfl, trivial⟩)
    | exact hF _ _ _ _ _ _ _ _ _ (mm_more (hK _ q2) (by decide) rfl ⟨rfl, rfl, rfl, trivial⟩)
    | (refine Exists.intro 100 ?_; conv => whnf)
    | (refine And.intro (fun h => absurd hz (by rw [h]; decide)) ?_; conv => whnf)
    | (refine And.intro (by unfold vp_in; decide) ?_; conv => whnf)
    | (refine And.intro (fun h => ?_) (fun h => ?_) <;> clear h <;> conv => whnf))
set_option maxRecDepth 100000 in
set_option maxHeartbeats 40000000 in
theorem lp_101d_58 {L : Nat} {xs : Nat → Int32} {d sl : Nat} {Q : mm_K} {w : Nat} {z : Int64} (hw2 : w ≤ 25) (hB : ∀ j, j < w → (W j).toInt.natAbs ≤ 1000000000) (hK : mm_w tb_P L xs (mm_call tb_P L xs d) 101 3000 176 [(1, .long z), (0, .ref 57)] [] (tb_H ln lf sr ss sc gv 58 59 kp (Int32.ofNat w) 0 fa R O W ax mt ml mr mfr mfa mf mg mR mF mT m1 m2 m3 ou) sl Q) : ∀ (t i N : Nat), i + t = w → 40 * t + 3040 ≤ N → mm_w tb_P L xs (mm_call tb_P L xs d) 101 N 122 [(3, .int (Int32.ofNat i)), (1, .long z), (0, .ref 57)] [] (tb_H ln lf sr ss sc gv 58 59 kp (Int32.ofNat w) 0 fa R O W ax mt ml mr mfr mfa mf mg mR mF mT m1 m2 m3 ou) sl Q
  | 0, i, N, hi, hN => by
    obtain ⟨N', rfl⟩ : ∃ N', N = N' + 40 := ⟨N - 40, by omega⟩
    refine mm_on (fun k pc => (Nat.beq k 101 && Nat.beq pc 122) || (Nat.beq k 101 && Nat.beq pc 176)) (fun _ => false) (fun F C hF hC => ?_)
    conv => whnf
    refine br_t (by first | decide | ((try simp only [lg_cmp_ge, lg_cmp_le, lg_cmp_gt, lg_cmp_lt, lg_cmp_eq]) <;> (try simp only [show (Int8.ofInt 40).toInt32 = Int32.ofNat 40 from rfl, show (Int8.ofInt 25).toInt32 = Int32.ofNat 25 from rfl, show (Int8.ofInt 24).toInt32 = Int32.ofNat 24 from rfl, show (Int16.ofInt 480).toInt32 = Int32.ofNat 480 from rfl, show Int32.ofInt 1 = Int32.ofNat 1 from rfl, show Int32.ofInt 0 = Int32.ofNat 0 from rfl, show (0 : Int32) = Int32.ofNat 0 from rfl, show (1 : Int32) = Int32.ofNat 1 from rfl]) <;> (try simp only [← Int32.ofNat_add, ← Int32.ofNat_mul]) <;> (try simp (disch := omega) only [q_cl, q_on, Nat.mul_zero, Nat.zero_mul, Nat.zero_add, Nat.add_zero, Nat.mul_one]) <;> (try simp only [Int32.lt_iff_toInt_lt, Int32.le_iff_toInt_le, ← Int32.toInt_inj, Int64.lt_iff_toInt_lt, Int64.le_iff_toInt_le, ← Int64.toInt_inj, ← Int32.toNat_toInt, mm_k0, mm_k1, mm_K0, mm_K1, mm_K2, Int32.toInt_toInt64, List.length_cons, List.length_nil, vp_updL, upd, ↓reduceIte, not_true_eq_false, not_false_eq_true, mm_x0, mm_K3]) <;> (try simp (disch := omega) only [q_on, q_cl]) <;> omega) | fail) ?_
    conv => whnf
    exact hF _ _ _ _ _ _ _ _ _ (mm_more (hK) (by omega) rfl ⟨rfl, rfl, trivial⟩)
  | t + 1, i, N, hi, hN => by
    obtain ⟨N', rfl⟩ : ∃ N', N = N' + 40 := ⟨N - 40, by omega⟩
    have hb := hB i (by omega)
    refine mm_on (fun k pc => (Nat.beq k 101 && Nat.beq pc 122) || (Nat.beq k 101 && Nat.beq pc 176)) (fun _ => false) (fun F C hF hC => ?_)
    conv => whnf
    refine br_f (by first | decide | ((try simp only [lg_cmp_ge, lg_cmp_le, lg_cmp_gt, lg_cmp_lt, lg_cmp_eq]) <;> (try simp only [show (Int8.ofInt 40).toInt32 = Int32.ofNat 40 from rfl, show (Int8.ofInt 25).toInt32 = Int32.ofNat 25 from rfl, show (Int8.ofInt 24).toInt32 = Int32.ofNat 24 from rfl, show (Int16.ofInt 480).toInt32 = Int32.ofNat 480 from rfl, show Int32.ofInt 1 = Int32.ofNat 1 from rfl, show Int32.ofInt 0 = Int32.ofNat 0 from rfl, show (0 : Int32) = Int32.ofNat 0 from rfl, show (1 : Int32) = Int32.ofNat 1 from rfl]) <;> (try simp only [← Int32.ofNat_add, ← Int32.ofNat_mul]) <;> (try simp (disch := omega) only [q_cl, q_on, Nat.mul_zero, Nat.zero_mul, Nat.zero_add, Nat.add_zero, Nat.mul_one]) <;> (try simp only [Int32.lt_iff_toInt_lt, Int32.le_iff_toInt_le, ← Int32.toInt_inj, Int64.lt_iff_toInt_lt, Int64.le_iff_toInt_le, ← Int64.toInt_inj, ← Int32.toNat_toInt, mm_k0, mm_k1, mm_K0, mm_K1, mm_K2, Int32.toInt_toInt64, List.length_cons, List.length_nil, vp_updL, upd, ↓reduceIte, not_true_eq_false, not_false_eq_true, mm_x0, mm_K3]) <;> (try simp (disch := omega) only [q_on, q_cl]) <;> omega) | fail) ?_
    conv => whnf
    refine And.intro (by first | decide | (unfold vp_in; decide) | ((try unfold vp_in) <;> (try simp only [lg_cmp_ge, lg_cmp_le, lg_cmp_gt, lg_cmp_lt, lg_cmp_eq]) <;> (try simp only [show (Int8.ofInt 40).toInt32 = Int32.ofNat 40 from rfl, show (Int8.ofInt 25).toInt32 = Int32.ofNat 25 from rfl, show (Int8.ofInt 24).toInt32 = Int32.ofNat 24 from rfl, show (Int16.ofInt 480).toInt32 = Int32.ofNat 480 from rfl, show Int32.ofInt 1 = Int32.ofNat 1 from rfl, show Int32.ofInt 0 = Int32.ofNat 0 from rfl, show (0 : Int32) = Int32.ofNat 0 from rfl, show (1 : Int32) = Int32.ofNat 1 from rfl]) <;> (try simp only [← Int32.ofNat_add, ← Int32.ofNat_mul]) <;> (try simp (disch := omega) only [q_cl, q_on, Nat.mul_zero, Nat.zero_mul, Nat.zero_add, Nat.add_zero, Nat.mul_one]) <;> (try simp only [Int32.lt_iff_toInt_lt, Int32.le_iff_toInt_le, ← Int32.toInt_inj, Int64.lt_iff_toInt_lt, Int64.le_iff_toInt_le, ← Int64.toInt_inj, ← Int32.toNat_toInt, mm_k0, mm_k1, mm_K0, mm_K1, mm_K2, Int32.toInt_toInt64, List.length_cons, List.length_nil, vp_updL, upd, ↓reduceIte, not_true_eq_false, not_false_eq_true, mm_x0, mm_K3]) <;> (try simp (disch := omega) only [q_on, q_cl]) <;> omega) | fail) ?_
    conv => whnf
    refine br_f (by first | decide | ((try simp only [lg_cmp_ge, lg_cmp_le, lg_cmp_gt, lg_cmp_lt, lg_cmp_eq]) <;> (try simp only [show (Int8.ofInt 40).toInt32 = Int32.ofNat 40 from rfl, show (Int8.ofInt 25).toInt32 = Int32.ofNat 25 from rfl, show (Int8.ofInt 24).toInt32 = Int32.ofNat 24 from rfl, show (Int16.ofInt 480).toInt32 = Int32.ofNat 480 from rfl, show Int32.ofInt 1 = Int32.ofNat 1 from rfl, show Int32.ofInt 0 = Int32.ofNat 0 from rfl, show (0 : Int32) = Int32.ofNat 0 from rfl, show (1 : Int32) = Int32.ofNat 1 from rfl]) <;> (try simp only [← Int32.ofNat_add, ← Int32.ofNat_mul]) <;> (try simp (disch := omega) only [q_cl, q_on, Nat.mul_zero, Nat.zero_mul, Nat.zero_add, Nat.add_zero, Nat.mul_one]) <;> (try simp only [Int32.lt_iff_toInt_lt, Int32.le_iff_toInt_le, ← Int32.toInt_inj, Int64.lt_iff_toInt_lt, Int64.le_iff_toInt_le, ← Int64.toInt_inj, ← Int32.toNat_toInt, mm_k0, mm_k1, mm_K0, mm_K1, mm_K2, Int32.toInt_toInt64, List.length_cons, List.length_nil, vp_updL, upd, ↓reduceIte, not_true_eq_false, not_false_eq_true, mm_x0, mm_K3]) <;> (try simp (disch := omega) only [q_on, q_cl]) <;> omega) | fail) ?_
    conv => whnf
    refine And.intro (by first | decide | (unfold vp_in; decide) | ((try unfold vp_in) <;> (try simp only [lg_cmp_ge, lg_cmp_le, lg_cmp_gt, lg_cmp_lt, lg_cmp_eq]) <;> (try simp only [show (Int8.ofInt 40).toInt32 = Int32.ofNat 40 from rfl, show (Int8.ofInt 25).toInt32 = Int32.ofNat 25 from rfl, show (Int8.ofInt 24).toInt32 = Int32.ofNat 24 from rfl, show (Int16.ofInt 480).toInt32 = Int32.ofNat 480 from rfl, show Int32.ofInt 1 = Int32.ofNat 1 from rfl, show Int32.ofInt 0 = Int32.ofNat 0 from rfl, show (0 : Int32) = Int32.ofNat 0 from rfl, show (1 : Int32) = Int32.ofNat 1 from rfl]) <;> (try simp only [← Int32.ofNat_add, ← Int32.ofNat_mul]) <;> (try simp (disch := omega) only [q_cl, q_on, Nat.mul_zero, Nat.zero_mul, Nat.zero_add, Nat.add_zero, Nat.mul_one]) <;> (try simp only [Int32.lt_iff_toInt_lt, Int32.le_iff_toInt_le, ← Int32.toInt_inj, Int64.lt_iff_toInt_lt, Int64.le_iff_toInt_le, ← Int64.toInt_inj, ← Int32.toNat_toInt, mm_k0, mm_k1, mm_K0, mm_K1, mm_K2, Int32.toInt_toInt64, List.length_cons, List.length_nil, vp_updL, upd, ↓reduceIte, not_true_eq_false, not_false_eq_true, mm_x0, mm_K3]) <;> (try simp (disch := omega) only [q_on, q_cl]) <;> omega) | fail) ?_
    conv => whnf
    refine br_t (by first | decide | ((try simp only [lg_cmp_ge, lg_cmp_le, lg_cmp_gt, lg_cmp_lt, lg_cmp_eq]) <;> (try simp only [show (Int8.ofInt 40).toInt32 = Int32.ofNat 40 from rfl, show (Int8.ofInt 25).toInt32 = Int32.ofNat 25 from rfl, show (Int8.ofInt 24).toInt32 = Int32.ofNat 24 from rfl, show (Int16.ofInt 480).toInt32 = Int32.ofNat 480 from rfl, show Int32.ofInt 1 = Int32.ofNat 1 from rfl, show Int32.ofInt 0 = Int32.ofNat 0 from rfl, show (0 : Int32) = Int32.ofNat 0 from rfl, show (1 : Int32) = Int32.ofNat 1 from rfl]) <;> (try simp only [← Int32.ofNat_add, ← Int32.ofNat_mul]) <;> (try simp (disch := omega) only [q_cl, q_on, Nat.mul_zero, Nat.zero_mul, Nat.zero_add, Nat.add_zero, Nat.mul_one]) <;> (try simp only [Int32.lt_iff_toInt_lt, Int32.le_iff_toInt_le, ← Int32.toInt_inj, Int64.lt_iff_toInt_lt, Int64.le_iff_toInt_le, ← Int64.toInt_inj, ← Int32.toNat_toInt, mm_k0, mm_k1, mm_K0, mm_K1, mm_K2, Int32.toInt_toInt64, List.length_cons, List.length_nil, vp_updL, upd, ↓reduceIte, not_true_eq_false, not_false_eq_true, mm_x0, mm_K3]) <;> (try simp (disch := omega) only [q_on, q_cl]) <;> omega) | fail) ?_
    conv => whnf
    refine And.intro (by decide) ?_
    conv => whnf
    rw [q_inc]
    exact hF _ _ _ _ _ _ _ _ _ (mm_more (lp_101d_58 hw2 hB hK t (i + 1) N' (by omega) (by omega)) (Nat.le_add_right N' _) rfl ⟨rfl, rfl, rfl, trivial⟩)
set_option maxRecDepth 100000 in
set_option maxHeartbeats 40000000 in
theorem lp_101d_59 {L : Nat} {xs : Nat → Int32} {d sl : Nat} {Q : mm_K} {w : Nat} {z : Int64} (hw2 : w ≤ 25) (hB : ∀ j, j < w → (W j).toInt.natAbs ≤ 1000000000) (hK : mm_w tb_P L xs (mm_call tb_P L xs d) 101 3000 176 [(1, .long z), (0, .ref 57)] [] (tb_H ln lf sr ss sc gv 59 58 kp (Int32.ofNat w) 0 fa R O W ax mt ml mr mfr mfa mf mg mR mF mT m1 m2 m3 ou) sl Q) : ∀ (t i N : Nat), i + t = w → 40 * t + 3040 ≤ N → mm_w tb_P L xs (mm_call tb_P L xs d) 101 N 122 [(3, .int (Int32.ofNat i)), (1, .long z), (0, .ref 57)] [] (tb_H ln lf sr ss sc gv 59 58 kp (Int32.ofNat w) 0 fa R O W ax mt ml mr mfr mfa mf mg mR mF mT m1 m2 m3 ou) sl Q
  | 0, i, N, hi, hN => by
    obtain ⟨N', rfl⟩ : ∃ N', N = N' + 40 := ⟨N - 40, by omega⟩
    refine mm_on (fun k pc => (Nat.beq k 101 && Nat.beq pc 122) || (Nat.beq k 101 && Nat.beq pc 176)) (fun _ => false) (fun F C hF hC => ?_)
    conv => whnf
    refine br_t (by first | decide | ((try simp only [lg_cmp_ge, lg_cmp_le, lg_cmp_gt, lg_cmp_lt, lg_cmp_eq]) <;> (try simp only [show (Int8.ofInt 40).toInt32 = Int32.ofNat 40 from rfl, show (Int8.ofInt 25).toInt32 = Int32.ofNat 25 from rfl, show (Int8.ofInt 24).toInt32 = Int32.ofNat 24 from rfl, show (Int16.ofInt 480).toInt32 = Int32.ofNat 480 from rfl, show Int32.ofInt 1 = Int32.ofNat 1 from rfl, show Int32.ofInt 0 = Int32.ofNat 0 from rfl, show (0 : Int32) = Int32.ofNat 0 from rfl, show (1 : Int32) = Int32.ofNat 1 from rfl]) <;> (try simp only [← Int32.ofNat_add, ← Int32.ofNat_mul]) <;> (try simp (disch := omega) only [q_cl, q_on, Nat.mul_zero, Nat.zero_mul, Nat.zero_add, Nat.add_zero, Nat.mul_one]) <;> (try simp only [Int32.lt_iff_toInt_lt, Int32.le_iff_toInt_le, ← Int32.toInt_inj, Int64.lt_iff_toInt_lt, Int64.le_iff_toInt_le, ← Int64.toInt_inj, ← Int32.toNat_toInt, mm_k0, mm_k1, mm_K0, mm_K1, mm_K2, Int32.toInt_toInt64, List.length_cons, List.length_nil, vp_updL, upd, ↓reduceIte, not_true_eq_false, not_false_eq_true, mm_x0, mm_K3]) <;> (try simp (disch := omega) only [q_on, q_cl]) <;> omega) | fail) ?_
    conv => whnf
    exact hF _ _ _ _ _ _ _ _ _ (mm_more (hK) (by omega) rfl ⟨rfl, rfl, trivial⟩)
  | t + 1, i, N, hi, hN => by
    obtain ⟨N', rfl⟩ : ∃ N', N = N' + 40 := ⟨N - 40, by omega⟩
    have hb := hB i (by omega)
    refine mm_on (fun k pc => (Nat.beq k 101 && Nat.beq pc 122) || (Nat.beq k 101 && Nat.beq pc 176)) (fun _ => false) (fun F C hF hC => ?_)
    conv => whnf
    refine br_f (by first | decide | ((try simp only [lg_cmp_ge, lg_cmp_le, lg_cmp_gt, lg_cmp_lt, lg_cmp_eq]) <;> (try simp only [show (Int8.ofInt 40).toInt32 = Int32.ofNat 40 from rfl, show (Int8.ofInt 25).toInt32 = Int32.ofNat 25 from rfl, show (Int8.ofInt 24).toInt32 = Int32.ofNat 24 from rfl, show (Int16.ofInt 480).toInt32 = Int32.ofNat 480 from rfl, show Int32.ofInt 1 = Int32.ofNat 1 from rfl, show Int32.ofInt 0 = Int32.ofNat 0 from rfl, show (0 : Int32) = Int32.ofNat 0 from rfl, show (1 : Int32) = Int32.ofNat 1 from rfl]) <;> (try simp only [← Int32.ofNat_add, ← Int32.ofNat_mul]) <;> (try simp (disch := omega) only [q_cl, q_on, Nat.mul_zero, Nat.zero_mul, Nat.zero_add, Nat.add_zero, Nat.mul_one]) <;> (try simp only [Int32.lt_iff_toInt_lt, Int32.le_iff_toInt_le, ← Int32.toInt_inj, Int64.lt_iff_toInt_lt, Int64.le_iff_toInt_le, ← Int64.toInt_inj, ← Int32.toNat_toInt, mm_k0, mm_k1, mm_K0, mm_K1, mm_K2, Int32.toInt_toInt64, List.length_cons, List.length_nil, vp_updL, upd, ↓reduceIte, not_true_eq_false, not_false_eq_true, mm_x0, mm_K3]) <;> (try simp (disch := omega) only [q_on, q_cl]) <;> omega) | fail) ?_
    conv => whnf
    refine And.intro (by first | decide | (unfold vp_in; decide) | ((try unfold vp_in) <;> (try simp only [lg_cmp_ge, lg_cmp_le, lg_cmp_gt, lg_cmp_lt, lg_cmp_eq]) <;> (try simp only [show (Int8.ofInt 40).toInt32 = Int32.ofNat 40 from rfl, show (Int8.ofInt 25).toInt32 = Int32.ofNat 25 from rfl, show (Int8.ofInt 24).toInt32 = Int32.ofNat 24 from rfl, show (Int16.ofInt 480).toInt32 = Int32.ofNat 480 from rfl, show Int32.ofInt 1 = Int32.ofNat 1 from rfl, show Int32.ofInt 0 = Int32.ofNat 0 from rfl, show (0 : Int32) = Int32.ofNat 0 from rfl, show (1 : Int32) = Int32.ofNat 1 from rfl]) <;> (try simp only [← Int32.ofNat_add, ← Int32.ofNat_mul]) <;> (try simp (disch := omega) only [q_cl, q_on, Nat.mul_zero, Nat.zero_mul, Nat.zero_add, Nat.add_zero, Nat.mul_one]) <;> (try simp only [Int32.lt_iff_toInt_lt, Int32.le_iff_toInt_le, ← Int32.toInt_inj, Int64.lt_iff_toInt_lt, Int64.le_iff_toInt_le, ← Int64.toInt_inj, ← Int32.toNat_toInt, mm_k0, mm_k1, mm_K0, mm_K1, mm_K2, Int32.toInt_toInt64, List.length_cons, List.length_nil, vp_updL, upd, ↓reduceIte, not_true_eq_false, not_false_eq_true, mm_x0, mm_K3]) <;> (try simp (disch := omega) only [q_on, q_cl]) <;> omega) | fail) ?_
    conv => whnf
    refine br_f (by first | decide | ((try simp only [lg_cmp_ge, lg_cmp_le, lg_cmp_gt, lg_cmp_lt, lg_cmp_eq]) <;> (try simp only [show (Int8.ofInt 40).toInt32 = Int32.ofNat 40 from rfl, show (Int8.ofInt 25).toInt32 = Int32.ofNat 25 from rfl, show (Int8.ofInt 24).toInt32 = Int32.ofNat 24 from rfl, show (Int16.ofInt 480).toInt32 = Int32.ofNat 480 from rfl, show Int32.ofInt 1 = Int32.ofNat 1 from rfl, show Int32.ofInt 0 = Int32.ofNat 0 from rfl, show (0 : Int32) = Int32.ofNat 0 from rfl, show (1 : Int32) = Int32.ofNat 1 from rfl]) <;> (try simp only [← Int32.ofNat_add, ← Int32.ofNat_mul]) <;> (try simp (disch := omega) only [q_cl, q_on, Nat.mul_zero, Nat.zero_mul, Nat.zero_add, Nat.add_zero, Nat.mul_one]) <;> (try simp only [Int32.lt_iff_toInt_lt, Int32.le_iff_toInt_le, ← Int32.toInt_inj, Int64.lt_iff_toInt_lt, Int64.le_iff_toInt_le, ← Int64.toInt_inj, ← Int32.toNat_toInt, mm_k0, mm_k1, mm_K0, mm_K1, mm_K2, Int32.toInt_toInt64, List.length_cons, List.length_nil, vp_updL, upd, ↓reduceIte, not_true_eq_false, not_false_eq_true, mm_x0, mm_K3]) <;> (try simp (disch := omega) only [q_on, q_cl]) <;> omega) | fail) ?_
    conv => whnf
    refine And.intro (by first | decide | (unfold vp_in; decide) | ((try unfold vp_in) <;> (try simp only [lg_cmp_ge, lg_cmp_le, lg_cmp_gt, lg_cmp_lt, lg_cmp_eq]) <;> (try simp only [show (Int8.ofInt 40).toInt32 = Int32.ofNat 40 from rfl, show (Int8.ofInt 25).toInt32 = Int32.ofNat 25 from rfl, show (Int8.ofInt 24).toInt32 = Int32.ofNat 24 from rfl, show (Int16.ofInt 480).toInt32 = Int32.ofNat 480 from rfl, show Int32.ofInt 1 = Int32.ofNat 1 from rfl, show Int32.ofInt 0 = Int32.ofNat 0 from rfl, show (0 : Int32) = Int32.ofNat 0 from rfl, show (1 : Int32) = Int32.ofNat 1 from rfl]) <;> (try simp only [← Int32.ofNat_add, ← Int32.ofNat_mul]) <;> (try simp (disch := omega) only [q_cl, q_on, Nat.mul_zero, Nat.zero_mul, Nat.zero_add, Nat.add_zero, Nat.mul_one]) <;> (try simp only [Int32.lt_iff_toInt_lt, Int32.le_iff_toInt_le, ← Int32.toInt_inj, Int64.lt_iff_toInt_lt, Int64.le_iff_toInt_le, ← Int64.toInt_inj, ← Int32.toNat_toInt, mm_k0, mm_k1, mm_K0, mm_K1, mm_K2, Int32.toInt_toInt64, List.length_cons, List.length_nil, vp_updL, upd, ↓reduceIte, not_true_eq_false, not_false_eq_true, mm_x0, mm_K3]) <;> (try simp (disch := omega) only [q_on, q_cl]) <;> omega) | fail) ?_
    conv => whnf
    refine br_t (by first | decide | ((try simp only [lg_cmp_ge, lg_cmp_le, lg_cmp_gt, lg_cmp_lt, lg_cmp_eq]) <;> (try simp only [show (Int8.ofInt 40).toInt32 = Int32.ofNat 40 from rfl, show (Int8.ofInt 25).toInt32 = Int32.ofNat 25 from rfl, show (Int8.ofInt 24).toInt32 = Int32.ofNat 24 from rfl, show (Int16.ofInt 480).toInt32 = Int32.ofNat 480 from rfl, show Int32.ofInt 1 = Int32.ofNat 1 from rfl, show Int32.ofInt 0 = Int32.ofNat 0 from rfl, show (0 : Int32) = Int32.ofNat 0 from rfl, show (1 : Int32) = Int32.ofNat 1 from rfl]) <;> (try simp only [← Int32.ofNat_add, ← Int32.ofNat_mul]) <;> (try simp (disch := omega) only [q_cl, q_on, Nat.mul_zero, Nat.zero_mul, Nat.zero_add, Nat.add_zero, Nat.mul_one]) <;> (try simp only [Int32.lt_iff_toInt_lt, Int32.le_iff_toInt_le, ← Int32.toInt_inj, Int64.lt_iff_toInt_lt, Int64.le_iff_toInt_le, ← Int64.toInt_inj, ← Int32.toNat_toInt, mm_k0, mm_k1, mm_K0, mm_K1, mm_K2, Int32.toInt_toInt64, List.length_cons, List.length_nil, vp_updL, upd, ↓reduceIte, not_true_eq_false, not_false_eq_true, mm_x0, mm_K3]) <;> (try simp (disch := omega) only [q_on, q_cl]) <;> omega) | fail) ?_
    conv => whnf
    refine And.intro (by decide) ?_
    conv => whnf
    rw [q_inc]
    exact hF _ _ _ _ _ _ _ _ _ (mm_more (lp_101d_59 hw2 hB hK t (i + 1) N' (by omega) (by omega)) (Nat.le_add_right N' _) rfl ⟨rfl, rfl, rfl, trivial⟩)
set_option maxRecDepth 100000 in
set_option maxHeartbeats 40000000 in
theorem k_101_58 {L : Nat} {xs : Nat → Int32} {d sl : Nat} {Q : mm_K} {w : Nat} (hw : 1 ≤ w) (hw2 : w ≤ 25) (hW : ∀ j, 1 ≤ j → j < w → (W j).toInt.natAbs ≤ 1000) (hB : (W 0).toInt.natAbs ≤ 100000000) (hz1 : (∀ j, 1 ≤ j → j < w → (W j).toInt = 0) → (W 0).toInt < 0 → Q (.inl none) (tb_H ln lf sr ss sc gv 58 59 0 (Int32.ofNat w) 0 1 R O W ax mt ml mr mfr mfa mf mg mR mF mT m1 m2 m3 ou) sl) (hz0 : (∀ j, 1 ≤ j → j < w → (W j).toInt = 0) → 0 ≤ (W 0).toInt → Q (.inl none) (tb_H ln lf sr ss sc gv 58 59 0 (Int32.ofNat w) 0 0 R O W ax mt ml mr mfr mfa mf mg mR mF mT m1 m2 m3 ou) sl) (hn : (∃ j, 1 ≤ j ∧ j < w ∧ (W j).toInt ≠ 0) → ∀ W' R' : Nat → Int64, (∀ j, 1 ≤ j → j < w → ((W' j).toInt = 0 ↔ (W j).toInt = 0) ∧ (W' j).toInt.natAbs ≤ 1000) → (W' 0).toInt.natAbs ≤ (W 0).toInt.natAbs + 1 → (∀ j, j < w → R' j = W' j) → Q (.inl none) (tb_H ln lf sr ss sc gv 58 59 1 (Int32.ofNat w) 0 0 R' O W' ax mt ml mr mfr mfa mf mg mR mF mT m1 m2 m3 ou) sl) : mm_call tb_P L xs (d + 3) 101 [.ref 57] (tb_H ln lf sr ss sc gv 58 59 0 (Int32.ofNat w) 0 0 R O W ax mt ml mr mfr mfa mf mg mR mF mT m1 m2 m3 ou) sl Q := by
  refine mm_run (fun k pc => (Nat.beq k 101 && Nat.beq pc 4)) (fun _ => false) (fun F C hF hC => ?_)
  refine Exists.intro 90000 ?_
  conv => whnf
  refine hF _ _ _ _ _ _ _ _ _ (mm_more (lp_101a hw hw2 hW (fun z hz => ?_) (w - 1) 0 80000 0 (by omega) (by omega) rfl) (by decide) rfl ⟨rfl, rfl, rfl, trivial⟩)
  clear hF hC
  refine mm_on (fun k pc => (Nat.beq k 101 && Nat.beq pc 80) || (Nat.beq k 101 && Nat.beq pc 122)) (fun _ => false) (fun F C hF hC => ?_)
  conv => whnf
  have hbd : ∀ j, j < w → (W j).toInt.natAbs ≤ 1000000000 := fun j hj => by
    by_cases h0 : j = 0
    · subst h0
      omega
    · have := hW j (by omega) hj
      omega
  have hdv : ∀ j, 1 ≤ j → j < w → z.toInt ∣ (W j).toInt := fun j h1 h2 => by
    have := q_gs_dvd (W := fun j => W (j + 1)) (n := w - 1) (j := j - 1) (by omega)
    rw [hz]
    have e : j - 1 + 1 = j := by omega
    simp only [e] at this
    exact this
  by_cases h0 : q_gs (fun j => W (j + 1)) (w - 1) = 0
  · have hzz : z.toInt = 0 := by omega
    have ha : (∀ j, 1 ≤ j → j < w → (W j).toInt = 0) := fun j h1 h2 => by
      have := q_gs_zero h0 (j - 1) (by omega)
      have e : j - 1 + 1 = j := by omega
      simp only [e] at this
      exact this
    refine br_t (by first | decide | ((try simp only [lg_cmp_ge, lg_cmp_le, lg_cmp_gt, lg_cmp_lt, lg_cmp_eq]) <;> (try simp only [show (Int8.ofInt 40).toInt32 = Int32.ofNat 40 from rfl, show (Int8.ofInt 25).toInt32 = Int32.ofNat 25 from rfl, show (Int8.ofInt 24).toInt32 = Int32.ofNat 24 from rfl, show (Int16.ofInt 480).toInt32 = Int32.ofNat 480 from rfl, show Int32.ofInt 1 = Int32.ofNat 1 from rfl, show Int32.ofInt 0 = Int32.ofNat 0 from rfl, show (0 : Int32) = Int32.ofNat 0 from rfl, show (1 : Int32) = Int32.ofNat 1 from rfl]) <;> (try simp only [← Int32.ofNat_add, ← Int32.ofNat_mul]) <;> (try simp (disch := omega) only [q_cl, q_on, Nat.mul_zero, Nat.zero_mul, Nat.zero_add, Nat.add_zero, Nat.mul_one]) <;> (try simp only [Int32.lt_iff_toInt_lt, Int32.le_iff_toInt_le, ← Int32.toInt_inj, Int64.lt_iff_toInt_lt, Int64.le_iff_toInt_le, ← Int64.toInt_inj, ← Int32.toNat_toInt, mm_k0, mm_k1, mm_K0, mm_K1, mm_K2, Int32.toInt_toInt64, List.length_cons, List.length_nil, vp_updL, upd, ↓reduceIte, not_true_eq_false, not_false_eq_true, mm_x0, mm_K3]) <;> (try simp (disch := omega) only [q_on, q_cl]) <;> omega) | fail) ?_
    conv => whnf
    refine hF _ _ _ _ _ _ _ _ _ (mm_more (lp_101d_58 hw2 hbd ?_ w 0 4500 (by omega) (by omega)) (by decide) rfl ⟨rfl, rfl, rfl, trivial⟩)
    clear hF hC
    refine mm_on (fun _ _ => false) (fun _ => false) (fun F C hF hC => ?_)
    conv => whnf
    refine br_f (by first | decide | ((try simp only [lg_cmp_ge, lg_cmp_le, lg_cmp_gt, lg_cmp_lt, lg_cmp_eq]) <;> (try simp only [show (Int8.ofInt 40).toInt32 = Int32.ofNat 40 from rfl, show (Int8.ofInt 25).toInt32 = Int32.ofNat 25 from rfl, show (Int8.ofInt 24).toInt32 = Int32.ofNat 24 from rfl, show (Int16.ofInt 480).toInt32 = Int32.ofNat 480 from rfl, show Int32.ofInt 1 = Int32.ofNat 1 from rfl, show Int32.ofInt 0 = Int32.ofNat 0 from rfl, show (0 : Int32) = Int32.ofNat 0 from rfl, show (1 : Int32) = Int32.ofNat 1 from rfl]) <;> (try simp only [← Int32.ofNat_add, ← Int32.ofNat_mul]) <;> (try simp (disch := omega) only [q_cl, q_on, Nat.mul_zero, Nat.zero_mul, Nat.zero_add, Nat.add_zero, Nat.mul_one]) <;> (try simp only [Int32.lt_iff_toInt_lt, Int32.le_iff_toInt_le, ← Int32.toInt_inj, Int64.lt_iff_toInt_lt, Int64.le_iff_toInt_le, ← Int64.toInt_inj, ← Int32.toNat_toInt, mm_k0, mm_k1, mm_K0, mm_K1, mm_K2, Int32.toInt_toInt64, List.length_cons, List.length_nil, vp_updL, upd, ↓reduceIte, not_true_eq_false, not_false_eq_true, mm_x0, mm_K3]) <;> (try simp (disch := omega) only [q_on, q_cl]) <;> omega) | fail) ?_
    conv => whnf
    refine And.intro (by unfold vp_in; decide) ?_
    conv => whnf
    refine And.intro (fun h => ?_) (fun h => ?_) <;> (simp only [lg_cmp_ge] at h) <;> (simp only [Int64.le_iff_toInt_le, mm_k0] at h) <;> conv => whnf
    · refine And.intro (by decide) ?_
      conv => whnf
      exact hz0 ha h
    · refine And.intro (by decide) ?_
      conv => whnf
      exact hz1 ha (by have h' : ¬ 0 ≤ (W 0).toInt := h; omega)
  · have hzz : 0 < z.toInt := by omega
    have he : ∃ j, 1 ≤ j ∧ j < w ∧ (W j).toInt ≠ 0 :=
      Classical.byContradiction (fun hc => h0 (q_gs_zero' (fun j hj => Classical.byContradiction (fun hj' => hc ⟨j + 1, by omega, by omega, hj'⟩))))
    have fin : ∀ W1 : Nat → Int64, (∀ j, 1 ≤ j → j < w → ((W1 j).toInt = 0 ↔ (W j).toInt = 0) ∧ (W1 j).toInt.natAbs ≤ 1000) → (W1 0).toInt.natAbs ≤ (W 0).toInt.natAbs + 1 → mm_w tb_P L xs (mm_call tb_P L xs (d + 2)) 101 4500 122 [(3, .int 0), (1, .long z), (0, .ref 57)] [] (tb_H ln lf sr ss sc gv 58 59 0 (Int32.ofNat w) 0 0 R O W1 ax mt ml mr mfr mfa mf mg mR mF mT m1 m2 m3 ou) sl Q := by
      intro W1 g1 g2
      refine lp_101d_58 hw2 (fun j hj => ?_) ?_ w 0 4500 (by omega) (by omega)
      · by_cases h0 : j = 0
        · subst h0
          omega
        · have := (g1 j (by omega) hj).2
          omega
      · refine mm_on (fun _ _ => false) (fun _ => false) (fun F C hF hC => ?_)
        conv => whnf
        refine br_t (by first | decide | ((try simp only [lg_cmp_ge, lg_cmp_le, lg_cmp_gt, lg_cmp_lt, lg_cmp_eq]) <;> (try simp only [show (Int8.ofInt 40).toInt32 = Int32.ofNat 40 from rfl, show (Int8.ofInt 25).toInt32 = Int32.ofNat 25 from rfl, show (Int8.ofInt 24).toInt32 = Int32.ofNat 24 from rfl, show (Int16.ofInt 480).toInt32 = Int32.ofNat 480 from rfl, show Int32.ofInt 1 = Int32.ofNat 1 from rfl, show Int32.ofInt 0 = Int32.ofNat 0 from rfl, show (0 : Int32) = Int32.ofNat 0 from rfl, show (1 : Int32) = Int32.ofNat 1 from rfl]) <;> (try simp only [← Int32.ofNat_add, ← Int32.ofNat_mul]) <;> (try simp (disch := omega) only [q_cl, q_on, Nat.mul_zero, Nat.zero_mul, Nat.zero_add, Nat.add_zero, Nat.mul_one]) <;> (try simp only [Int32.lt_iff_toInt_lt, Int32.le_iff_toInt_le, ← Int32.toInt_inj, Int64.lt_iff_toInt_lt, Int64.le_iff_toInt_le, ← Int64.toInt_inj, ← Int32.toNat_toInt, mm_k0, mm_k1, mm_K0, mm_K1, mm_K2, Int32.toInt_toInt64, List.length_cons, List.length_nil, vp_updL, upd, ↓reduceIte, not_true_eq_false, not_false_eq_true, mm_x0, mm_K3]) <;> (try simp (disch := omega) only [q_on, q_cl]) <;> omega) | fail) ?_
        conv => whnf
        refine br_t (by decide) ?_
        conv => whnf
        refine br_t (by decide) ?_
        conv => whnf
        have hcw : (Int32.ofNat w).toNatClampNeg = w := q_cl (by omega)
        have hcn : ¬ Int32.ofNat w < 0 := by
          rw [Int32.lt_iff_toInt_lt, q_on (by omega)]
          show ¬ (w : Int) < 0
          omega
        refine And.intro ⟨by decide, by decide, hcn, ?_, ?_⟩ ?_
        · rw [hcw]
          show 0 + w ≤ 25
          omega
        · rw [hcw]
          show 0 + w ≤ 2000
          omega
        · conv => whnf
          have h := hn he W1 (va_cpy W1 R 0 0 (Int32.ofNat w).toNatClampNeg) g1 g2 (fun j hj => by
            rw [hcw]
            unfold va_cpy
            rw [if_pos ⟨Nat.zero_le _, by omega⟩]
            congr 1
            omega)
          exact h
    refine And.intro (fun h => ?_) (fun h => ?_) <;> (simp only [lg_cmp_le] at h) <;> (simp only [Int64.le_iff_toInt_le, mm_k1] at h) <;> conv => whnf
    · exact hF _ _ _ _ _ _ _ _ _ (mm_more (fin W (fun j h1 h2 => ⟨Iff.rfl, hW j h1 h2⟩) (by omega)) (by decide) rfl ⟨rfl, rfl, rfl, trivial⟩)
    · refine hF _ _ _ _ _ _ _ _ _ (mm_more (lp_101b hw2 hzz hdv hW (fun T hP => ?_) (w - 1) 0 10000 W (by omega) (by omega) (q_P1_zero _)) (by decide) rfl ⟨rfl, rfl, rfl, trivial⟩)
      have e0 : T 0 = W 0 := hP.2 0 (.inl rfl)
      refine lp_101c hzz (by rw [e0]; exact hB) (fun v hv => ?_)
      rw [e0] at hv
      refine fin _ (fun j h1 h2 => ?_) (by unfold vp_updL; rw [if_pos rfl]; exact hv)
      have h3 := hP.1 j h1 h2
      have h4 := hW j h1 h2
      unfold vp_updL
      rw [if_neg (by omega)]
      exact ⟨h3.1, by omega⟩
set_option maxRecDepth 100000 in
set_option maxHeartbeats 40000000 in
theorem k_101_59 {L : Nat} {xs : Nat → Int32} {d sl : Nat} {Q : mm_K} {w : Nat} (hw : 1 ≤ w) (hw2 : w ≤ 25) (hW : ∀ j, 1 ≤ j → j < w → (W j).toInt.natAbs ≤ 1000) (hB : (W 0).toInt.natAbs ≤ 100000000) (hz1 : (∀ j, 1 ≤ j → j < w → (W j).toInt = 0) → (W 0).toInt < 0 → Q (.inl none) (tb_H ln lf sr ss sc gv 59 58 0 (Int32.ofNat w) 0 1 R O W ax mt ml mr mfr mfa mf mg mR mF mT m1 m2 m3 ou) sl) (hz0 : (∀ j, 1 ≤ j → j < w → (W j).toInt = 0) → 0 ≤ (W 0).toInt → Q (.inl none) (tb_H ln lf sr ss sc gv 59 58 0 (Int32.ofNat w) 0 0 R O W ax mt ml mr mfr mfa mf mg mR mF mT m1 m2 m3 ou) sl) (hn : (∃ j, 1 ≤ j ∧ j < w ∧ (W j).toInt ≠ 0) → ∀ W' R' : Nat → Int64, (∀ j, 1 ≤ j → j < w → ((W' j).toInt = 0 ↔ (W j).toInt = 0) ∧ (W' j).toInt.natAbs ≤ 1000) → (W' 0).toInt.natAbs ≤ (W 0).toInt.natAbs + 1 → (∀ j, j < w → R' j = W' j) → Q (.inl none) (tb_H ln lf sr ss sc gv 59 58 1 (Int32.ofNat w) 0 0 R R' W' ax mt ml mr mfr mfa mf mg mR mF mT m1 m2 m3 ou) sl) : mm_call tb_P L xs (d + 3) 101 [.ref 57] (tb_H ln lf sr ss sc gv 59 58 0 (Int32.ofNat w) 0 0 R O W ax mt ml mr mfr mfa mf mg mR mF mT m1 m2 m3 ou) sl Q := by
  refine mm_run (fun k pc => (Nat.beq k 101 && Nat.beq pc 4)) (fun _ => false) (fun F C hF hC => ?_)
  refine Exists.intro 90000 ?_
  conv => whnf
  refine hF _ _ _ _ _ _ _ _ _ (mm_more (lp_101a hw hw2 hW (fun z hz => ?_) (w - 1) 0 80000 0 (by omega) (by omega) rfl) (by decide) rfl ⟨rfl, rfl, rfl, trivial⟩)
  clear hF hC
  refine mm_on (fun k pc => (Nat.beq k 101 && Nat.beq pc 80) || (Nat.beq k 101 && Nat.beq pc 122)) (fun _ => false) (fun F C hF hC => ?_)
  conv => whnf
  have hbd : ∀ j, j < w → (W j).toInt.natAbs ≤ 1000000000 := fun j hj => by
    by_cases h0 : j = 0
    · subst h0
      omega
    · have := hW j (by omega) hj
      omega
  have hdv : ∀ j, 1 ≤ j → j < w → z.toInt ∣ (W j).toInt := fun j h1 h2 => by
    have := q_gs_dvd (W := fun j => W (j + 1)) (n := w - 1) (j := j - 1) (by omega)
    rw [hz]
    have e : j - 1 + 1 = j := by omega
    simp only [e] at this
    exact this
  by_cases h0 : q_gs (fun j => W (j + 1)) (w - 1) = 0
  · have hzz : z.toInt = 0 := by omega
    have ha : (∀ j, 1 ≤ j → j < w → (W j).toInt = 0) := fun j h1 h2 => by
      have := q_gs_zero h0 (j - 1) (by omega)
      have e : j - 1 + 1 = j := by omega
      simp only [e] at this
      exact this
    refine br_t (by first | decide | ((try simp only [lg_cmp_ge, lg_cmp_le, lg_cmp_gt, lg_cmp_lt, lg_cmp_eq]) <;> (try simp only [show (Int8.ofInt 40).toInt32 = Int32.ofNat 40 from rfl, show (Int8.ofInt 25).toInt32 = Int32.ofNat 25 from rfl, show (Int8.ofInt 24).toInt32 = Int32.ofNat 24 from rfl, show (Int16.ofInt 480).toInt32 = Int32.ofNat 480 from rfl, show Int32.ofInt 1 = Int32.ofNat 1 from rfl, show Int32.ofInt 0 = Int32.ofNat 0 from rfl, show (0 : Int32) = Int32.ofNat 0 from rfl, show (1 : Int32) = Int32.ofNat 1 from rfl]) <;> (try simp only [← Int32.ofNat_add, ← Int32.ofNat_mul]) <;> (try simp (disch := omega) only [q_cl, q_on, Nat.mul_zero, Nat.zero_mul, Nat.zero_add, Nat.add_zero, Nat.mul_one]) <;> (try simp only [Int32.lt_iff_toInt_lt, Int32.le_iff_toInt_le, ← Int32.toInt_inj, Int64.lt_iff_toInt_lt, Int64.le_iff_toInt_le, ← Int64.toInt_inj, ← Int32.toNat_toInt, mm_k0, mm_k1, mm_K0, mm_K1, mm_K2, Int32.toInt_toInt64, List.length_cons, List.length_nil, vp_updL, upd, ↓reduceIte, not_true_eq_false, not_false_eq_true, mm_x0, mm_K3]) <;> (try simp (disch := omega) only [q_on, q_cl]) <;> omega) | fail) ?_
    conv => whnf
    refine hF _ _ _ _ _ _ _ _ _ (mm_more (lp_101d_59 hw2 hbd ?_ w 0 4500 (by omega) (by omega)) (by decide) rfl ⟨rfl, rfl, rfl, trivial⟩)
    clear hF hC
    refine mm_on (fun _ _ => false) (fun _ => false) (fun F C hF hC => ?_)
    conv => whnf
    refine br_f (by first | decide | ((try simp only [lg_cmp_ge, lg_cmp_le, lg_cmp_gt, lg_cmp_lt, lg_cmp_eq]) <;> (try simp only [show (Int8.ofInt 40).toInt32 = Int32.ofNat 40 from rfl, show (Int8.ofInt 25).toInt32 = Int32.ofNat 25 from rfl, show (Int8.ofInt 24).toInt32 = Int32.ofNat 24 from rfl, show (Int16.ofInt 480).toInt32 = Int32.ofNat 480 from rfl, show Int32.ofInt 1 = Int32.ofNat 1 from rfl, show Int32.ofInt 0 = Int32.ofNat 0 from rfl, show (0 : Int32) = Int32.ofNat 0 from rfl, show (1 : Int32) = Int32.ofNat 1 from rfl]) <;> (try simp only [← Int32.ofNat_add, ← Int32.ofNat_mul]) <;> (try simp (disch := omega) only [q_cl, q_on, Nat.mul_zero, Nat.zero_mul, Nat.zero_add, Nat.add_zero, Nat.mul_one]) <;> (try simp only [Int32.lt_iff_toInt_lt, Int32.le_iff_toInt_le, ← Int32.toInt_inj, Int64.lt_iff_toInt_lt, Int64.le_iff_toInt_le, ← Int64.toInt_inj, ← Int32.toNat_toInt, mm_k0, mm_k1, mm_K0, mm_K1, mm_K2, Int32.toInt_toInt64, List.length_cons, List.length_nil, vp_updL, upd, ↓reduceIte, not_true_eq_false, not_false_eq_true, mm_x0, mm_K3]) <;> (try simp (disch := omega) only [q_on, q_cl]) <;> omega) | fail) ?_
    conv => whnf
    refine And.intro (by unfold vp_in; decide) ?_
    conv => whnf
    refine And.intro (fun h => ?_) (fun h => ?_) <;> (simp only [lg_cmp_ge] at h) <;> (simp only [Int64.le_iff_toInt_le, mm_k0] at h) <;> conv => whnf
    · refine And.intro (by decide) ?_
      conv => whnf
      exact hz0 ha h
    · refine And.intro (by decide) ?_
      conv => whnf
      exact hz1 ha (by have h' : ¬ 0 ≤ (W 0).toInt := h; omega)
  · have hzz : 0 < z.toInt := by omega
    have he : ∃ j, 1 ≤ j ∧ j < w ∧ (W j).toInt ≠ 0 :=
      Classical.byContradiction (fun hc => h0 (q_gs_zero' (fun j hj => Classical.byContradiction (fun hj' => hc ⟨j + 1, by omega, by omega, hj'⟩))))
    have fin : ∀ W1 : Nat → Int64, (∀ j, 1 ≤ j → j < w → ((W1 j).toInt = 0 ↔ (W j).toInt = 0) ∧ (W1 j).toInt.natAbs ≤ 1000) → (W1 0).toInt.natAbs ≤ (W 0).toInt.natAbs + 1 → mm_w tb_P L xs (mm_call tb_P L xs (d + 2)) 101 4500 122 [(3, .int 0), (1, .long z), (0, .ref 57)] [] (tb_H ln lf sr ss sc gv 59 58 0 (Int32.ofNat w) 0 0 R O W1 ax mt ml mr mfr mfa mf mg mR mF mT m1 m2 m3 ou) sl Q := by
      intro W1 g1 g2
      refine lp_101d_59 hw2 (fun j hj => ?_) ?_ w 0 4500 (by omega) (by omega)
      · by_cases h0 : j = 0
        · subst h0
          omega
        · have := (g1 j (by omega) hj).2
          omega
      · refine mm_on (fun _ _ => false) (fun _ => false) (fun F C hF hC => ?_)
        conv => whnf
        refine br_t (by first | decide | ((try simp only [lg_cmp_ge, lg_cmp_le, lg_cmp_gt, lg_cmp_lt, lg_cmp_eq]) <;> (try simp only [show (Int8.ofInt 40).toInt32 = Int32.ofNat 40 from rfl, show (Int8.ofInt 25).toInt32 = Int32.ofNat 25 from rfl, show (Int8.ofInt 24).toInt32 = Int32.ofNat 24 from rfl, show (Int16.ofInt 480).toInt32 = Int32.ofNat 480 from rfl, show Int32.ofInt 1 = Int32.ofNat 1 from rfl, show Int32.ofInt 0 = Int32.ofNat 0 from rfl, show (0 : Int32) = Int32.ofNat 0 from rfl, show (1 : Int32) = Int32.ofNat 1 from rfl]) <;> (try simp only [← Int32.ofNat_add, ← Int32.ofNat_mul]) <;> (try simp (disch := omega) only [q_cl, q_on, Nat.mul_zero, Nat.zero_mul, Nat.zero_add, Nat.add_zero, Nat.mul_one]) <;> (try simp only [Int32.lt_iff_toInt_lt, Int32.le_iff_toInt_le, ← Int32.toInt_inj, Int64.lt_iff_toInt_lt, Int64.le_iff_toInt_le, ← Int64.toInt_inj, ← Int32.toNat_toInt, mm_k0, mm_k1, mm_K0, mm_K1, mm_K2, Int32.toInt_toInt64, List.length_cons, List.length_nil, vp_updL, upd, ↓reduceIte, not_true_eq_false, not_false_eq_true, mm_x0, mm_K3]) <;> (try simp (disch := omega) only [q_on, q_cl]) <;> omega) | fail) ?_
        conv => whnf
        refine br_t (by decide) ?_
        conv => whnf
        refine br_t (by decide) ?_
        conv => whnf
        have hcw : (Int32.ofNat w).toNatClampNeg = w := q_cl (by omega)
        have hcn : ¬ Int32.ofNat w < 0 := by
          rw [Int32.lt_iff_toInt_lt, q_on (by omega)]
          show ¬ (w : Int) < 0
          omega
        refine And.intro ⟨by decide, by decide, hcn, ?_, ?_⟩ ?_
        · rw [hcw]
          show 0 + w ≤ 25
          omega
        · rw [hcw]
          show 0 + w ≤ 2000
          omega
        · conv => whnf
          have h := hn he W1 (va_cpy W1 O 0 0 (Int32.ofNat w).toNatClampNeg) g1 g2 (fun j hj => by
            rw [hcw]
            unfold va_cpy
            rw [if_pos ⟨Nat.zero_le _, by omega⟩]
            congr 1
            omega)
          exact h
    refine And.intro (fun h => ?_) (fun h => ?_) <;> (simp only [lg_cmp_le] at h) <;> (simp only [Int64.le_iff_toInt_le, mm_k1] at h) <;> conv => whnf
    · exact hF _ _ _ _ _ _ _ _ _ (mm_more (fin W (fun j h1 h2 => ⟨Iff.rfl, hW j h1 h2⟩) (by omega)) (by decide) rfl ⟨rfl, rfl, rfl, trivial⟩)
    · refine hF _ _ _ _ _ _ _ _ _ (mm_more (lp_101b hw2 hzz hdv hW (fun T hP => ?_) (w - 1) 0 10000 W (by omega) (by omega) (q_P1_zero _)) (by decide) rfl ⟨rfl, rfl, rfl, trivial⟩)
      have e0 : T 0 = W 0 := hP.2 0 (.inl rfl)
      refine lp_101c hzz (by rw [e0]; exact hB) (fun v hv => ?_)
      rw [e0] at hv
      refine fin _ (fun j h1 h2 => ?_) (by unfold vp_updL; rw [if_pos rfl]; exact hv)
      have h3 := hP.1 j h1 h2
      have h4 := hW j h1 h2
      unfold vp_updL
      rw [if_neg (by omega)]
      exact ⟨h3.1, by omega⟩
end

/-! THE REFERENCE'S SOLVER, for one row at most. By wip/mkask.py. -/
section
variable {ln : Int32} {lf : Nat → Int32} {sr : Nat → Int32} {ss : Nat → Int32} {sc : Nat → Int32} {gv : Int32} {r1 : Nat} {r2 : Nat} {kp : Int32} {wd : Int32} {tm : Int32} {fa : Int32} {R : Nat → Int64} {O : Nat → Int64} {W : Nat → Int64} {ax : Nat → Int64} {mt : Int32} {ml : Int32} {mr : Int32} {mfr : Int32} {mfa : Int32} {mf : Nat → Int32} {mg : Nat → Int64} {mR : Nat → Int64} {mF : Nat → Int64} {mT : Nat → Int64} {m1 : Nat → Int32} {m2 : Nat → Int32} {m3 : Nat → Int32} {ou : Nat → Int64}
set_option maxRecDepth 100000 in
set_option maxHeartbeats 40000000 in
theorem lp_55 {L : Nat} {xs : Nat → Int32} {d sl : Nat} {Q : mm_K} {g : List va_E} : ∀ (t N : Nat) (x y : Int64), 0 ≤ x.toInt → 0 ≤ y.toInt → y.toInt < (t : Int) → 40 * t + 40 ≤ N → (∀ r : Int64, r.toInt = ((Nat.gcd x.toInt.natAbs y.toInt.natAbs : Nat) : Int) → Q (.inl (some (.long r))) g sl) → mm_w tb_P L xs (mm_call tb_P L xs d) 55 N 28 [(6, .long y), (4, .long x)] [] g sl Q
  | 0, N, x, y, hx, hy, ht, hN, hQ => absurd ht (by omega)
  | t + 1, N, x, y, hx, hy, ht, hN, hQ => by
    obtain ⟨N', rfl⟩ : ∃ N', N = N' + 40 := ⟨N - 40, by omega⟩
    refine mm_on (fun k pc => (Nat.beq k 55 && Nat.beq pc 28)) (fun _ => false) (fun F C hF hC => ?_)
    conv => whnf
    by_cases h0 : y = 0
    · refine br_t ((lg_cmp_eq _ _).mpr h0) ?_
      conv => whnf
      refine hQ _ ?_
      rw [h0, show (0 : Int64).toInt.natAbs = 0 from rfl, Nat.gcd_zero_right]
      omega
    · refine br_f (fun h => h0 ((lg_cmp_eq _ _).mp h)) ?_
      conv => whnf
      refine And.intro h0 ?_
      conv => whnf
      have hy' : 0 < y.toInt := by
        have h1 : y.toInt ≠ 0 := fun h => h0 (Int64.toInt_inj.mp h)
        omega
      have e := q_rem64 hx hy'
      have e2 := Int.emod_lt_of_pos x.toInt hy'
      have e3 := Int.emod_nonneg x.toInt (b := y.toInt) (by omega)
      exact hF _ _ _ _ _ _ _ _ _ (mm_more (lp_55 t N' y (x - x / y * y) hy (by omega) (by omega) (by omega) (fun r hr => hQ r (by rw [hr, e, q_gcd hx hy']))) (Nat.le_add_right N' _) rfl ⟨rfl, rfl, trivial⟩)
set_option maxRecDepth 100000 in
set_option maxHeartbeats 40000000 in
theorem k_55 {L : Nat} {xs : Nat → Int32} {d sl : Nat} {Q : mm_K} {g : List va_E} {a b : Int64} (ha : a.toInt.natAbs ≤ 1000) (hb : b.toInt.natAbs ≤ 1000) (hQ : ∀ r : Int64, r.toInt = ((Nat.gcd a.toInt.natAbs b.toInt.natAbs : Nat) : Int) → Q (.inl (some (.long r))) g sl) : mm_call tb_P L xs (d + 1) 55 [.long a, .long b] g sl Q := by
  have key : ∀ x y : Int64, x.toInt = (a.toInt.natAbs : Int) → y.toInt = (b.toInt.natAbs : Int) → mm_w tb_P L xs (mm_call tb_P L xs d) 55 45000 28 [(6, .long y), (4, .long x)] [] g sl Q := fun x y hx hy => lp_55 1001 45000 x y (by omega) (by omega) (by omega) (by omega) (fun r hr => hQ r (by rw [hr, hx, hy]; rfl))
  refine mm_run (fun k pc => (Nat.beq k 55 && Nat.beq pc 28)) (fun _ => false) (fun F C hF hC => ?_)
  refine Exists.intro 50000 ?_
  conv => whnf
  repeat' (first
    | (refine And.intro (fun h => ?_) (fun h => ?_) <;> (simp only [lg_cmp_ge] at h) <;> (simp only [Int64.le_iff_toInt_le, mm_k0] at h) <;> conv => whnf)
    | exact hF _ _ _ _ _ _ _ _ _ (mm_more (key _ _ (by first | omega | (rw [q_neg64 (by omega)]; omega)) (by first | omega | (rw [q_neg64 (by omega)]; omega))) (by decide) rfl ⟨rfl, rfl, trivial⟩))
set_option maxRecDepth 100000 in
set_option maxHeartbeats 40000000 in
theorem lp_56a {L : Nat} {xs : Nat → Int32} {d sl : Nat} {Q : mm_K} (hT : ∀ j, j < 24 → (mT j).toInt.natAbs ≤ 1000) (hK : ∀ z : Int64, z.toInt = ((q_gs mT 24 : Nat) : Int) → mm_w tb_P L xs (mm_call tb_P L xs (d + 1)) 56 20000 27 [(1, .long z), (0, .ref 82)] [] (tb_H ln lf sr ss sc gv r1 r2 kp wd tm fa R O W ax mt ml mr mfr mfa mf mg mR mF mT m1 m2 m3 ou) sl Q) : ∀ (t i N : Nat) (z : Int64), i + t = 24 → 40 * t + 20040 ≤ N → z.toInt = ((q_gs mT i : Nat) : Int) → mm_w tb_P L xs (mm_call tb_P L xs (d + 1)) 56 N 4 [(3, .int (Int32.ofNat i)), (1, .long z), (0, .ref 82)] [] (tb_H ln lf sr ss sc gv r1 r2 kp wd tm fa R O W ax mt ml mr mfr mfa mf mg mR mF mT m1 m2 m3 ou) sl Q
  | 0, i, N, z, hi, hN, hz => by
    obtain ⟨N', rfl⟩ : ∃ N', N = N' + 40 := ⟨N - 40, by omega⟩
    obtain rfl : i = 24 := by omega
    refine mm_on (fun k pc => (Nat.beq k 56 && Nat.beq pc 4) || (Nat.beq k 56 && Nat.beq pc 27)) (fun _ => false) (fun F C hF hC => ?_)
    conv => whnf
    refine br_t (by first | decide | ((try simp only [lg_cmp_ge, lg_cmp_le, lg_cmp_gt, lg_cmp_lt, lg_cmp_eq]) <;> (try simp only [show (Int8.ofInt 40).toInt32 = Int32.ofNat 40 from rfl, show (Int8.ofInt 25).toInt32 = Int32.ofNat 25 from rfl, show (Int8.ofInt 24).toInt32 = Int32.ofNat 24 from rfl, show (Int16.ofInt 480).toInt32 = Int32.ofNat 480 from rfl, show Int32.ofInt 1 = Int32.ofNat 1 from rfl, show Int32.ofInt 0 = Int32.ofNat 0 from rfl, show (0 : Int32) = Int32.ofNat 0 from rfl, show (1 : Int32) = Int32.ofNat 1 from rfl]) <;> (try simp only [← Int32.ofNat_add, ← Int32.ofNat_mul]) <;> (try simp (disch := omega) only [q_cl, q_on, Nat.mul_zero, Nat.zero_mul, Nat.zero_add, Nat.add_zero, Nat.mul_one]) <;> (try simp only [Int32.lt_iff_toInt_lt, Int32.le_iff_toInt_le, ← Int32.toInt_inj, Int64.lt_iff_toInt_lt, Int64.le_iff_toInt_le, ← Int64.toInt_inj, ← Int32.toNat_toInt, mm_k0, mm_k1, mm_K0, mm_K1, mm_K2, Int32.toInt_toInt64, List.length_cons, List.length_nil, vp_updL, upd, ↓reduceIte, not_true_eq_false, not_false_eq_true, mm_x0, mm_K3]) <;> (try simp (disch := omega) only [q_on, q_cl]) <;> omega) | fail) ?_
    conv => whnf
    exact hF _ _ _ _ _ _ _ _ _ (mm_more (hK z hz) (by omega) rfl ⟨rfl, rfl, trivial⟩)
  | t + 1, i, N, z, hi, hN, hz => by
    obtain ⟨N', rfl⟩ : ∃ N', N = N' + 40 := ⟨N - 40, by omega⟩
    refine mm_on (fun k pc => (Nat.beq k 56 && Nat.beq pc 4) || (Nat.beq k 56 && Nat.beq pc 27)) (fun _ => false) (fun F C hF hC => ?_)
    conv => whnf
    refine br_f (by first | decide | ((try simp only [lg_cmp_ge, lg_cmp_le, lg_cmp_gt, lg_cmp_lt, lg_cmp_eq]) <;> (try simp only [show (Int8.ofInt 40).toInt32 = Int32.ofNat 40 from rfl, show (Int8.ofInt 25).toInt32 = Int32.ofNat 25 from rfl, show (Int8.ofInt 24).toInt32 = Int32.ofNat 24 from rfl, show (Int16.ofInt 480).toInt32 = Int32.ofNat 480 from rfl, show Int32.ofInt 1 = Int32.ofNat 1 from rfl, show Int32.ofInt 0 = Int32.ofNat 0 from rfl, show (0 : Int32) = Int32.ofNat 0 from rfl, show (1 : Int32) = Int32.ofNat 1 from rfl]) <;> (try simp only [← Int32.ofNat_add, ← Int32.ofNat_mul]) <;> (try simp (disch := omega) only [q_cl, q_on, Nat.mul_zero, Nat.zero_mul, Nat.zero_add, Nat.add_zero, Nat.mul_one]) <;> (try simp only [Int32.lt_iff_toInt_lt, Int32.le_iff_toInt_le, ← Int32.toInt_inj, Int64.lt_iff_toInt_lt, Int64.le_iff_toInt_le, ← Int64.toInt_inj, ← Int32.toNat_toInt, mm_k0, mm_k1, mm_K0, mm_K1, mm_K2, Int32.toInt_toInt64, List.length_cons, List.length_nil, vp_updL, upd, ↓reduceIte, not_true_eq_false, not_false_eq_true, mm_x0, mm_K3]) <;> (try simp (disch := omega) only [q_on, q_cl]) <;> omega) | fail) ?_
    conv => whnf
    refine And.intro (by first | decide | (unfold vp_in; decide) | ((try unfold vp_in) <;> (try simp only [lg_cmp_ge, lg_cmp_le, lg_cmp_gt, lg_cmp_lt, lg_cmp_eq]) <;> (try simp only [show (Int8.ofInt 40).toInt32 = Int32.ofNat 40 from rfl, show (Int8.ofInt 25).toInt32 = Int32.ofNat 25 from rfl, show (Int8.ofInt 24).toInt32 = Int32.ofNat 24 from rfl, show (Int16.ofInt 480).toInt32 = Int32.ofNat 480 from rfl, show Int32.ofInt 1 = Int32.ofNat 1 from rfl, show Int32.ofInt 0 = Int32.ofNat 0 from rfl, show (0 : Int32) = Int32.ofNat 0 from rfl, show (1 : Int32) = Int32.ofNat 1 from rfl]) <;> (try simp only [← Int32.ofNat_add, ← Int32.ofNat_mul]) <;> (try simp (disch := omega) only [q_cl, q_on, Nat.mul_zero, Nat.zero_mul, Nat.zero_add, Nat.add_zero, Nat.mul_one]) <;> (try simp only [Int32.lt_iff_toInt_lt, Int32.le_iff_toInt_le, ← Int32.toInt_inj, Int64.lt_iff_toInt_lt, Int64.le_iff_toInt_le, ← Int64.toInt_inj, ← Int32.toNat_toInt, mm_k0, mm_k1, mm_K0, mm_K1, mm_K2, Int32.toInt_toInt64, List.length_cons, List.length_nil, vp_updL, upd, ↓reduceIte, not_true_eq_false, not_false_eq_true, mm_x0, mm_K3]) <;> (try simp (disch := omega) only [q_on, q_cl]) <;> omega) | fail) ?_
    conv => whnf
    have hg := q_gs_le (W := mT) (B := 1000) i (fun j hj => hT j (by omega))
    refine hC _ _ _ _ _ _ (k_55 (by omega) (by rw [q_cl (by omega)]; exact hT i (by omega)) (fun r hr => ?_))
    conv => whnf
    rw [q_inc]
    exact hF _ _ _ _ _ _ _ _ _ (mm_more (lp_56a hT hK t (i + 1) N' r (by omega) (by omega) (by rw [hr, q_cl (by omega), hz]; rfl)) (Nat.le_add_right N' _) rfl ⟨rfl, rfl, rfl, trivial⟩)
set_option maxRecDepth 100000 in
set_option maxHeartbeats 40000000 in
theorem lp_56b {L : Nat} {xs : Nat → Int32} {d sl : Nat} {Q : mm_K} {z : Int64} {A : Nat → Int64} (hz : 0 < z.toInt) (hd : ∀ j, j < 24 → z.toInt ∣ (A j).toInt) (hA : ∀ j, j < 24 → (A j).toInt.natAbs ≤ 1000) (hK : ∀ mT, q_P A mT 24 → mm_w tb_P L xs (mm_call tb_P L xs d) 56 5000 61 [(1, .long z), (0, .ref 82)] [] (tb_H ln lf sr ss sc gv r1 r2 kp wd tm fa R O W ax mt ml mr mfr mfa mf mg mR mF mT m1 m2 m3 ou) sl Q) : ∀ (t i N : Nat) (mT : Nat → Int64), i + t = 24 → 40 * t + 5040 ≤ N → q_P A mT i → mm_w tb_P L xs (mm_call tb_P L xs d) 56 N 35 [(3, .int (Int32.ofNat i)), (1, .long z), (0, .ref 82)] [] (tb_H ln lf sr ss sc gv r1 r2 kp wd tm fa R O W ax mt ml mr mfr mfa mf mg mR mF mT m1 m2 m3 ou) sl Q
  | 0, i, N, T, hi, hN, hP => by
    obtain ⟨N', rfl⟩ : ∃ N', N = N' + 40 := ⟨N - 40, by omega⟩
    obtain rfl : i = 24 := by omega
    refine mm_on (fun k pc => (Nat.beq k 56 && Nat.beq pc 35) || (Nat.beq k 56 && Nat.beq pc 61)) (fun _ => false) (fun F C hF hC => ?_)
    conv => whnf
    refine br_t (by first | decide | ((try simp only [lg_cmp_ge, lg_cmp_le, lg_cmp_gt, lg_cmp_lt, lg_cmp_eq]) <;> (try simp only [show (Int8.ofInt 40).toInt32 = Int32.ofNat 40 from rfl, show (Int8.ofInt 25).toInt32 = Int32.ofNat 25 from rfl, show (Int8.ofInt 24).toInt32 = Int32.ofNat 24 from rfl, show (Int16.ofInt 480).toInt32 = Int32.ofNat 480 from rfl, show Int32.ofInt 1 = Int32.ofNat 1 from rfl, show Int32.ofInt 0 = Int32.ofNat 0 from rfl, show (0 : Int32) = Int32.ofNat 0 from rfl, show (1 : Int32) = Int32.ofNat 1 from rfl]) <;> (try simp only [← Int32.ofNat_add, ← Int32.ofNat_mul]) <;> (try simp (disch := omega) only [q_cl, q_on, Nat.mul_zero, Nat.zero_mul, Nat.zero_add, Nat.add_zero, Nat.mul_one]) <;> (try simp only [Int32.lt_iff_toInt_lt, Int32.le_iff_toInt_le, ← Int32.toInt_inj, Int64.lt_iff_toInt_lt, Int64.le_iff_toInt_le, ← Int64.toInt_inj, ← Int32.toNat_toInt, mm_k0, mm_k1, mm_K0, mm_K1, mm_K2, Int32.toInt_toInt64, List.length_cons, List.length_nil, vp_updL, upd, ↓reduceIte, not_true_eq_false, not_false_eq_true, mm_x0, mm_K3]) <;> (try simp (disch := omega) only [q_on, q_cl]) <;> omega) | fail) ?_
    conv => whnf
    exact hF _ _ _ _ _ _ _ _ _ (mm_more (hK T hP) (by omega) rfl ⟨rfl, rfl, trivial⟩)
  | t + 1, i, N, T, hi, hN, hP => by
    obtain ⟨N', rfl⟩ : ∃ N', N = N' + 40 := ⟨N - 40, by omega⟩
    refine mm_on (fun k pc => (Nat.beq k 56 && Nat.beq pc 35) || (Nat.beq k 56 && Nat.beq pc 61)) (fun _ => false) (fun F C hF hC => ?_)
    conv => whnf
    refine br_f (by first | decide | ((try simp only [lg_cmp_ge, lg_cmp_le, lg_cmp_gt, lg_cmp_lt, lg_cmp_eq]) <;> (try simp only [show (Int8.ofInt 40).toInt32 = Int32.ofNat 40 from rfl, show (Int8.ofInt 25).toInt32 = Int32.ofNat 25 from rfl, show (Int8.ofInt 24).toInt32 = Int32.ofNat 24 from rfl, show (Int16.ofInt 480).toInt32 = Int32.ofNat 480 from rfl, show Int32.ofInt 1 = Int32.ofNat 1 from rfl, show Int32.ofInt 0 = Int32.ofNat 0 from rfl, show (0 : Int32) = Int32.ofNat 0 from rfl, show (1 : Int32) = Int32.ofNat 1 from rfl]) <;> (try simp only [← Int32.ofNat_add, ← Int32.ofNat_mul]) <;> (try simp (disch := omega) only [q_cl, q_on, Nat.mul_zero, Nat.zero_mul, Nat.zero_add, Nat.add_zero, Nat.mul_one]) <;> (try simp only [Int32.lt_iff_toInt_lt, Int32.le_iff_toInt_le, ← Int32.toInt_inj, Int64.lt_iff_toInt_lt, Int64.le_iff_toInt_le, ← Int64.toInt_inj, ← Int32.toNat_toInt, mm_k0, mm_k1, mm_K0, mm_K1, mm_K2, Int32.toInt_toInt64, List.length_cons, List.length_nil, vp_updL, upd, ↓reduceIte, not_true_eq_false, not_false_eq_true, mm_x0, mm_K3]) <;> (try simp (disch := omega) only [q_on, q_cl]) <;> omega) | fail) ?_
    conv => whnf
    refine And.intro (by first | decide | (unfold vp_in; decide) | ((try unfold vp_in) <;> (try simp only [lg_cmp_ge, lg_cmp_le, lg_cmp_gt, lg_cmp_lt, lg_cmp_eq]) <;> (try simp only [show (Int8.ofInt 40).toInt32 = Int32.ofNat 40 from rfl, show (Int8.ofInt 25).toInt32 = Int32.ofNat 25 from rfl, show (Int8.ofInt 24).toInt32 = Int32.ofNat 24 from rfl, show (Int16.ofInt 480).toInt32 = Int32.ofNat 480 from rfl, show Int32.ofInt 1 = Int32.ofNat 1 from rfl, show Int32.ofInt 0 = Int32.ofNat 0 from rfl, show (0 : Int32) = Int32.ofNat 0 from rfl, show (1 : Int32) = Int32.ofNat 1 from rfl]) <;> (try simp only [← Int32.ofNat_add, ← Int32.ofNat_mul]) <;> (try simp (disch := omega) only [q_cl, q_on, Nat.mul_zero, Nat.zero_mul, Nat.zero_add, Nat.add_zero, Nat.mul_one]) <;> (try simp only [Int32.lt_iff_toInt_lt, Int32.le_iff_toInt_le, ← Int32.toInt_inj, Int64.lt_iff_toInt_lt, Int64.le_iff_toInt_le, ← Int64.toInt_inj, ← Int32.toNat_toInt, mm_k0, mm_k1, mm_K0, mm_K1, mm_K2, Int32.toInt_toInt64, List.length_cons, List.length_nil, vp_updL, upd, ↓reduceIte, not_true_eq_false, not_false_eq_true, mm_x0, mm_K3]) <;> (try simp (disch := omega) only [q_on, q_cl]) <;> omega) | fail) ?_
    conv => whnf
    refine And.intro (fun h => ?_) ?_
    · rw [h] at hz
      exact absurd hz (by decide)
    conv => whnf
    refine And.intro (by first | decide | (unfold vp_in; decide) | ((try unfold vp_in) <;> (try simp only [lg_cmp_ge, lg_cmp_le, lg_cmp_gt, lg_cmp_lt, lg_cmp_eq]) <;> (try simp only [show (Int8.ofInt 40).toInt32 = Int32.ofNat 40 from rfl, show (Int8.ofInt 25).toInt32 = Int32.ofNat 25 from rfl, show (Int8.ofInt 24).toInt32 = Int32.ofNat 24 from rfl, show (Int16.ofInt 480).toInt32 = Int32.ofNat 480 from rfl, show Int32.ofInt 1 = Int32.ofNat 1 from rfl, show Int32.ofInt 0 = Int32.ofNat 0 from rfl, show (0 : Int32) = Int32.ofNat 0 from rfl, show (1 : Int32) = Int32.ofNat 1 from rfl]) <;> (try simp only [← Int32.ofNat_add, ← Int32.ofNat_mul]) <;> (try simp (disch := omega) only [q_cl, q_on, Nat.mul_zero, Nat.zero_mul, Nat.zero_add, Nat.add_zero, Nat.mul_one]) <;> (try simp only [Int32.lt_iff_toInt_lt, Int32.le_iff_toInt_le, ← Int32.toInt_inj, Int64.lt_iff_toInt_lt, Int64.le_iff_toInt_le, ← Int64.toInt_inj, ← Int32.toNat_toInt, mm_k0, mm_k1, mm_K0, mm_K1, mm_K2, Int32.toInt_toInt64, List.length_cons, List.length_nil, vp_updL, upd, ↓reduceIte, not_true_eq_false, not_false_eq_true, mm_x0, mm_K3]) <;> (try simp (disch := omega) only [q_on, q_cl]) <;> omega) | fail) ?_
    conv => whnf
    rw [q_inc]
    exact hF _ _ _ _ _ _ _ _ _ (mm_more (lp_56b hz hd hA hK t (i + 1) N' _ (by omega) (by omega) (q_P_step hP (by (try simp only [show (Int8.ofInt 40).toInt32 = Int32.ofNat 40 from rfl, show (Int8.ofInt 25).toInt32 = Int32.ofNat 25 from rfl, show (Int8.ofInt 24).toInt32 = Int32.ofNat 24 from rfl, show (Int16.ofInt 480).toInt32 = Int32.ofNat 480 from rfl, show Int32.ofInt 1 = Int32.ofNat 1 from rfl, show Int32.ofInt 0 = Int32.ofNat 0 from rfl, show (0 : Int32) = Int32.ofNat 0 from rfl, show (1 : Int32) = Int32.ofNat 1 from rfl]) <;> (try simp only [← Int32.ofNat_add, ← Int32.ofNat_mul]) <;> (try simp (disch := omega) only [q_cl, Nat.mul_zero, Nat.zero_mul, Nat.zero_add, Nat.add_zero, Nat.mul_one]) <;> first | rfl | omega | fail) (by (try simp only [show (Int8.ofInt 40).toInt32 = Int32.ofNat 40 from rfl, show (Int8.ofInt 25).toInt32 = Int32.ofNat 25 from rfl, show (Int8.ofInt 24).toInt32 = Int32.ofNat 24 from rfl, show (Int16.ofInt 480).toInt32 = Int32.ofNat 480 from rfl, show Int32.ofInt 1 = Int32.ofNat 1 from rfl, show Int32.ofInt 0 = Int32.ofNat 0 from rfl, show (0 : Int32) = Int32.ofNat 0 from rfl, show (1 : Int32) = Int32.ofNat 1 from rfl]) <;> (try simp only [← Int32.ofNat_add, ← Int32.ofNat_mul]) <;> (try simp (disch := omega) only [q_cl, Nat.mul_zero, Nat.zero_mul, Nat.zero_add, Nat.add_zero, Nat.mul_one]) <;> first | rfl | omega | fail) hz (hd i (by omega)) (by have := hA i (by omega); omega))) (Nat.le_add_right N' _) rfl ⟨rfl, rfl, rfl, trivial⟩)
set_option maxRecDepth 100000 in
set_option maxHeartbeats 40000000 in
theorem lp_56c {L : Nat} {xs : Nat → Int32} {d sl : Nat} {Q : mm_K} {z : Int64} (hz : 0 < z.toInt) (hT : (mT 24).toInt.natAbs ≤ 100000000) (hK : ∀ v : Int64, v.toInt.natAbs ≤ (mT 24).toInt.natAbs + 1 → mm_w tb_P L xs (mm_call tb_P L xs (d + 1)) 56 4500 81 [(3, .int 0), (1, .long z), (0, .ref 82)] [] (tb_H ln lf sr ss sc gv r1 r2 kp wd tm fa R O W ax mt ml mr mfr mfa mf mg mR mF (vp_updL mT 24 v) m1 m2 m3 ou) sl Q) : mm_w tb_P L xs (mm_call tb_P L xs (d + 1)) 56 5000 61 [(1, .long z), (0, .ref 82)] [] (tb_H ln lf sr ss sc gv r1 r2 kp wd tm fa R O W ax mt ml mr mfr mfa mf mg mR mF mT m1 m2 m3 ou) sl Q := by
  have q1 : (mT 24 / z).toInt.natAbs ≤ (mT 24).toInt.natAbs := q_div_abs (by omega)
  have q2 : (mT 24 / z - 1).toInt.natAbs ≤ (mT 24).toInt.natAbs + 1 := by
    rw [q_sub64 (by have : (1 : Int64).toInt = 1 := rfl; omega) (by have : (1 : Int64).toInt = 1 := rfl; omega), show (1 : Int64).toInt = 1 from rfl]
    omega
  refine mm_on (fun k pc => (Nat.beq k 56 && Nat.beq pc 81)) (fun _ => true) (fun F C hF hC => ?_)
  conv => whnf
  repeat' (first
    | exact hF _ _ _ _ _ _ _ _ _ (mm_more (hK _ (Nat.le_succ_of_le q1)) (by decide) rfl ⟨rfl, rfl, rfl, trivial⟩)
    | exact hF _ _ _ _ _ _ _ _ _ (mm_more (hK _ q2) (by decide) rfl ⟨rfl, rfl, rfl, trivial⟩)
    | (refine Exists.intro 100 ?_; conv => whnf)
    | (refine And.intro (fun h => absurd hz (by rw [h]; decide)) ?_; conv => whnf)
    | (refine And.intro (by unfold vp_in; decide) ?_; conv => whnf)
    | (refine And.intro (fun h => ?_) (fun h => ?_) <;> clear h <;> conv => whnf))
set_option maxRecDepth 100000 in
set_option maxHeartbeats 40000000 in
theorem lp_56d {L : Nat} {xs : Nat → Int32} {d sl : Nat} {Q : mm_K} {z : Int64} (hB : ∀ j, j < 25 → (mT j).toInt.natAbs ≤ 1000000000) (hK : mm_w tb_P L xs (mm_call tb_P L xs d) 56 3000 121 [(1, .long z), (0, .ref 82)] [] (tb_H ln lf sr ss sc gv r1 r2 kp wd tm fa R O W ax mt ml mr mfr mfa mf mg mR mF mT m1 m2 m3 ou) sl Q) : ∀ (t i N : Nat), i + t = 25 → 40 * t + 3040 ≤ N → mm_w tb_P L xs (mm_call tb_P L xs d) 56 N 81 [(3, .int (Int32.ofNat i)), (1, .long z), (0, .ref 82)] [] (tb_H ln lf sr ss sc gv r1 r2 kp wd tm fa R O W ax mt ml mr mfr mfa mf mg mR mF mT m1 m2 m3 ou) sl Q
  | 0, i, N, hi, hN => by
    obtain ⟨N', rfl⟩ : ∃ N', N = N' + 40 := ⟨N - 40, by omega⟩
    refine mm_on (fun k pc => (Nat.beq k 56 && Nat.beq pc 81) || (Nat.beq k 56 && Nat.beq pc 121)) (fun _ => false) (fun F C hF hC => ?_)
    conv => whnf
    refine br_t (by first | decide | ((try simp only [lg_cmp_ge, lg_cmp_le, lg_cmp_gt, lg_cmp_lt, lg_cmp_eq]) <;> (try simp only [show (Int8.ofInt 40).toInt32 = Int32.ofNat 40 from rfl, show (Int8.ofInt 25).toInt32 = Int32.ofNat 25 from rfl, show (Int8.ofInt 24).toInt32 = Int32.ofNat 24 from rfl, show (Int16.ofInt 480).toInt32 = Int32.ofNat 480 from rfl, show Int32.ofInt 1 = Int32.ofNat 1 from rfl, show Int32.ofInt 0 = Int32.ofNat 0 from rfl, show (0 : Int32) = Int32.ofNat 0 from rfl, show (1 : Int32) = Int32.ofNat 1 from rfl]) <;> (try simp only [← Int32.ofNat_add, ← Int32.ofNat_mul]) <;> (try simp (disch := omega) only [q_cl, q_on, Nat.mul_zero, Nat.zero_mul, Nat.zero_add, Nat.add_zero, Nat.mul_one]) <;> (try simp only [Int32.lt_iff_toInt_lt, Int32.le_iff_toInt_le, ← Int32.toInt_inj, Int64.lt_iff_toInt_lt, Int64.le_iff_toInt_le, ← Int64.toInt_inj, ← Int32.toNat_toInt, mm_k0, mm_k1, mm_K0, mm_K1, mm_K2, Int32.toInt_toInt64, List.length_cons, List.length_nil, vp_updL, upd, ↓reduceIte, not_true_eq_false, not_false_eq_true, mm_x0, mm_K3]) <;> (try simp (disch := omega) only [q_on, q_cl]) <;> omega) | fail) ?_
    conv => whnf
    exact hF _ _ _ _ _ _ _ _ _ (mm_more (hK) (by omega) rfl ⟨rfl, rfl, trivial⟩)
  | t + 1, i, N, hi, hN => by
    obtain ⟨N', rfl⟩ : ∃ N', N = N' + 40 := ⟨N - 40, by omega⟩
    have hb := hB i (by omega)
    refine mm_on (fun k pc => (Nat.beq k 56 && Nat.beq pc 81) || (Nat.beq k 56 && Nat.beq pc 121)) (fun _ => false) (fun F C hF hC => ?_)
    conv => whnf
    refine br_f (by first | decide | ((try simp only [lg_cmp_ge, lg_cmp_le, lg_cmp_gt, lg_cmp_lt, lg_cmp_eq]) <;> (try simp only [show (Int8.ofInt 40).toInt32 = Int32.ofNat 40 from rfl, show (Int8.ofInt 25).toInt32 = Int32.ofNat 25 from rfl, show (Int8.ofInt 24).toInt32 = Int32.ofNat 24 from rfl, show (Int16.ofInt 480).toInt32 = Int32.ofNat 480 from rfl, show Int32.ofInt 1 = Int32.ofNat 1 from rfl, show Int32.ofInt 0 = Int32.ofNat 0 from rfl, show (0 : Int32) = Int32.ofNat 0 from rfl, show (1 : Int32) = Int32.ofNat 1 from rfl]) <;> (try simp only [← Int32.ofNat_add, ← Int32.ofNat_mul]) <;> (try simp (disch := omega) only [q_cl, q_on, Nat.mul_zero, Nat.zero_mul, Nat.zero_add, Nat.add_zero, Nat.mul_one]) <;> (try simp only [Int32.lt_iff_toInt_lt, Int32.le_iff_toInt_le, ← Int32.toInt_inj, Int64.lt_iff_toInt_lt, Int64.le_iff_toInt_le, ← Int64.toInt_inj, ← Int32.toNat_toInt, mm_k0, mm_k1, mm_K0, mm_K1, mm_K2, Int32.toInt_toInt64, List.length_cons, List.length_nil, vp_updL, upd, ↓reduceIte, not_true_eq_false, not_false_eq_true, mm_x0, mm_K3]) <;> (try simp (disch := omega) only [q_on, q_cl]) <;> omega) | fail) ?_
    conv => whnf
    refine And.intro (by first | decide | (unfold vp_in; decide) | ((try unfold vp_in) <;> (try simp only [lg_cmp_ge, lg_cmp_le, lg_cmp_gt, lg_cmp_lt, lg_cmp_eq]) <;> (try simp only [show (Int8.ofInt 40).toInt32 = Int32.ofNat 40 from rfl, show (Int8.ofInt 25).toInt32 = Int32.ofNat 25 from rfl, show (Int8.ofInt 24).toInt32 = Int32.ofNat 24 from rfl, show (Int16.ofInt 480).toInt32 = Int32.ofNat 480 from rfl, show Int32.ofInt 1 = Int32.ofNat 1 from rfl, show Int32.ofInt 0 = Int32.ofNat 0 from rfl, show (0 : Int32) = Int32.ofNat 0 from rfl, show (1 : Int32) = Int32.ofNat 1 from rfl]) <;> (try simp only [← Int32.ofNat_add, ← Int32.ofNat_mul]) <;> (try simp (disch := omega) only [q_cl, q_on, Nat.mul_zero, Nat.zero_mul, Nat.zero_add, Nat.add_zero, Nat.mul_one]) <;> (try simp only [Int32.lt_iff_toInt_lt, Int32.le_iff_toInt_le, ← Int32.toInt_inj, Int64.lt_iff_toInt_lt, Int64.le_iff_toInt_le, ← Int64.toInt_inj, ← Int32.toNat_toInt, mm_k0, mm_k1, mm_K0, mm_K1, mm_K2, Int32.toInt_toInt64, List.length_cons, List.length_nil, vp_updL, upd, ↓reduceIte, not_true_eq_false, not_false_eq_true, mm_x0, mm_K3]) <;> (try simp (disch := omega) only [q_on, q_cl]) <;> omega) | fail) ?_
    conv => whnf
    refine br_f (by first | decide | ((try simp only [lg_cmp_ge, lg_cmp_le, lg_cmp_gt, lg_cmp_lt, lg_cmp_eq]) <;> (try simp only [show (Int8.ofInt 40).toInt32 = Int32.ofNat 40 from rfl, show (Int8.ofInt 25).toInt32 = Int32.ofNat 25 from rfl, show (Int8.ofInt 24).toInt32 = Int32.ofNat 24 from rfl, show (Int16.ofInt 480).toInt32 = Int32.ofNat 480 from rfl, show Int32.ofInt 1 = Int32.ofNat 1 from rfl, show Int32.ofInt 0 = Int32.ofNat 0 from rfl, show (0 : Int32) = Int32.ofNat 0 from rfl, show (1 : Int32) = Int32.ofNat 1 from rfl]) <;> (try simp only [← Int32.ofNat_add, ← Int32.ofNat_mul]) <;> (try simp (disch := omega) only [q_cl, q_on, Nat.mul_zero, Nat.zero_mul, Nat.zero_add, Nat.add_zero, Nat.mul_one]) <;> (try simp only [Int32.lt_iff_toInt_lt, Int32.le_iff_toInt_le, ← Int32.toInt_inj, Int64.lt_iff_toInt_lt, Int64.le_iff_toInt_le, ← Int64.toInt_inj, ← Int32.toNat_toInt, mm_k0, mm_k1, mm_K0, mm_K1, mm_K2, Int32.toInt_toInt64, List.length_cons, List.length_nil, vp_updL, upd, ↓reduceIte, not_true_eq_false, not_false_eq_true, mm_x0, mm_K3]) <;> (try simp (disch := omega) only [q_on, q_cl]) <;> omega) | fail) ?_
    conv => whnf
    refine And.intro (by first | decide | (unfold vp_in; decide) | ((try unfold vp_in) <;> (try simp only [lg_cmp_ge, lg_cmp_le, lg_cmp_gt, lg_cmp_lt, lg_cmp_eq]) <;> (try simp only [show (Int8.ofInt 40).toInt32 = Int32.ofNat 40 from rfl, show (Int8.ofInt 25).toInt32 = Int32.ofNat 25 from rfl, show (Int8.ofInt 24).toInt32 = Int32.ofNat 24 from rfl, show (Int16.ofInt 480).toInt32 = Int32.ofNat 480 from rfl, show Int32.ofInt 1 = Int32.ofNat 1 from rfl, show Int32.ofInt 0 = Int32.ofNat 0 from rfl, show (0 : Int32) = Int32.ofNat 0 from rfl, show (1 : Int32) = Int32.ofNat 1 from rfl]) <;> (try simp only [← Int32.ofNat_add, ← Int32.ofNat_mul]) <;> (try simp (disch := omega) only [q_cl, q_on, Nat.mul_zero, Nat.zero_mul, Nat.zero_add, Nat.add_zero, Nat.mul_one]) <;> (try simp only [Int32.lt_iff_toInt_lt, Int32.le_iff_toInt_le, ← Int32.toInt_inj, Int64.lt_iff_toInt_lt, Int64.le_iff_toInt_le, ← Int64.toInt_inj, ← Int32.toNat_toInt, mm_k0, mm_k1, mm_K0, mm_K1, mm_K2, Int32.toInt_toInt64, List.length_cons, List.length_nil, vp_updL, upd, ↓reduceIte, not_true_eq_false, not_false_eq_true, mm_x0, mm_K3]) <;> (try simp (disch := omega) only [q_on, q_cl]) <;> omega) | fail) ?_
    conv => whnf
    refine br_t (by first | decide | ((try simp only [lg_cmp_ge, lg_cmp_le, lg_cmp_gt, lg_cmp_lt, lg_cmp_eq]) <;> (try simp only [show (Int8.ofInt 40).toInt32 = Int32.ofNat 40 from rfl, show (Int8.ofInt 25).toInt32 = Int32.ofNat 25 from rfl, show (Int8.ofInt 24).toInt32 = Int32.ofNat 24 from rfl, show (Int16.ofInt 480).toInt32 = Int32.ofNat 480 from rfl, show Int32.ofInt 1 = Int32.ofNat 1 from rfl, show Int32.ofInt 0 = Int32.ofNat 0 from rfl, show (0 : Int32) = Int32.ofNat 0 from rfl, show (1 : Int32) = Int32.ofNat 1 from rfl]) <;> (try simp only [← Int32.ofNat_add, ← Int32.ofNat_mul]) <;> (try simp (disch := omega) only [q_cl, q_on, Nat.mul_zero, Nat.zero_mul, Nat.zero_add, Nat.add_zero, Nat.mul_one]) <;> (try simp only [Int32.lt_iff_toInt_lt, Int32.le_iff_toInt_le, ← Int32.toInt_inj, Int64.lt_iff_toInt_lt, Int64.le_iff_toInt_le, ← Int64.toInt_inj, ← Int32.toNat_toInt, mm_k0, mm_k1, mm_K0, mm_K1, mm_K2, Int32.toInt_toInt64, List.length_cons, List.length_nil, vp_updL, upd, ↓reduceIte, not_true_eq_false, not_false_eq_true, mm_x0, mm_K3]) <;> (try simp (disch := omega) only [q_on, q_cl]) <;> omega) | fail) ?_
    conv => whnf
    rw [q_inc]
    exact hF _ _ _ _ _ _ _ _ _ (mm_more (lp_56d hB hK t (i + 1) N' (by omega) (by omega)) (Nat.le_add_right N' _) rfl ⟨rfl, rfl, rfl, trivial⟩)
set_option maxRecDepth 100000 in
set_option maxHeartbeats 40000000 in
theorem lp_56f {L : Nat} {xs : Nat → Int32} {d sl : Nat} {Q : mm_K} (hK : ∀ mF : Nat → Int64, (∀ j, j < 25 → mF j = mT j) → Q (.inl (some (.int 1))) (tb_H ln lf sr ss sc gv r1 r2 kp wd tm fa R O W ax mt ml mr 1 mfa mf mg mR mF mT m1 m2 m3 ou) sl) : ∀ (t i N : Nat) (mF : Nat → Int64), i + t = 25 → 40 * t + 40 ≤ N → (∀ j, j < i → mF j = mT j) → mm_w tb_P L xs (mm_call tb_P L xs d) 56 N 281 [(3, .int (Int32.ofNat i)), (0, .ref 82)] [] (tb_H ln lf sr ss sc gv r1 r2 kp wd tm fa R O W ax mt ml mr 0 mfa mf mg mR mF mT m1 m2 m3 ou) sl Q
  | 0, i, N, f, hi, hN, hf => by
    obtain ⟨N', rfl⟩ : ∃ N', N = N' + 40 := ⟨N - 40, by omega⟩
    obtain rfl : i = 25 := by omega
    refine mm_on (fun k pc => (Nat.beq k 56 && Nat.beq pc 281)) (fun _ => false) (fun F C hF hC => ?_)
    conv => whnf
    refine br_t (by first | decide | ((try simp only [lg_cmp_ge, lg_cmp_le, lg_cmp_gt, lg_cmp_lt, lg_cmp_eq]) <;> (try simp only [show (Int8.ofInt 40).toInt32 = Int32.ofNat 40 from rfl, show (Int8.ofInt 25).toInt32 = Int32.ofNat 25 from rfl, show (Int8.ofInt 24).toInt32 = Int32.ofNat 24 from rfl, show (Int16.ofInt 480).toInt32 = Int32.ofNat 480 from rfl, show Int32.ofInt 1 = Int32.ofNat 1 from rfl, show Int32.ofInt 0 = Int32.ofNat 0 from rfl, show (0 : Int32) = Int32.ofNat 0 from rfl, show (1 : Int32) = Int32.ofNat 1 from rfl]) <;> (try simp only [← Int32.ofNat_add, ← Int32.ofNat_mul]) <;> (try simp (disch := omega) only [q_cl, q_on, Nat.mul_zero, Nat.zero_mul, Nat.zero_add, Nat.add_zero, Nat.mul_one]) <;> (try simp only [Int32.lt_iff_toInt_lt, Int32.le_iff_toInt_le, ← Int32.toInt_inj, Int64.lt_iff_toInt_lt, Int64.le_iff_toInt_le, ← Int64.toInt_inj, ← Int32.toNat_toInt, mm_k0, mm_k1, mm_K0, mm_K1, mm_K2, Int32.toInt_toInt64, List.length_cons, List.length_nil, vp_updL, upd, ↓reduceIte, not_true_eq_false, not_false_eq_true, mm_x0, mm_K3]) <;> (try simp (disch := omega) only [q_on, q_cl]) <;> omega) | fail) ?_
    conv => whnf
    refine And.intro (by decide) ?_
    exact hK f hf
  | t + 1, i, N, f, hi, hN, hf => by
    obtain ⟨N', rfl⟩ : ∃ N', N = N' + 40 := ⟨N - 40, by omega⟩
    refine mm_on (fun k pc => (Nat.beq k 56 && Nat.beq pc 281)) (fun _ => false) (fun F C hF hC => ?_)
    conv => whnf
    refine br_f (by first | decide | ((try simp only [lg_cmp_ge, lg_cmp_le, lg_cmp_gt, lg_cmp_lt, lg_cmp_eq]) <;> (try simp only [show (Int8.ofInt 40).toInt32 = Int32.ofNat 40 from rfl, show (Int8.ofInt 25).toInt32 = Int32.ofNat 25 from rfl, show (Int8.ofInt 24).toInt32 = Int32.ofNat 24 from rfl, show (Int16.ofInt 480).toInt32 = Int32.ofNat 480 from rfl, show Int32.ofInt 1 = Int32.ofNat 1 from rfl, show Int32.ofInt 0 = Int32.ofNat 0 from rfl, show (0 : Int32) = Int32.ofNat 0 from rfl, show (1 : Int32) = Int32.ofNat 1 from rfl]) <;> (try simp only [← Int32.ofNat_add, ← Int32.ofNat_mul]) <;> (try simp (disch := omega) only [q_cl, q_on, Nat.mul_zero, Nat.zero_mul, Nat.zero_add, Nat.add_zero, Nat.mul_one]) <;> (try simp only [Int32.lt_iff_toInt_lt, Int32.le_iff_toInt_le, ← Int32.toInt_inj, Int64.lt_iff_toInt_lt, Int64.le_iff_toInt_le, ← Int64.toInt_inj, ← Int32.toNat_toInt, mm_k0, mm_k1, mm_K0, mm_K1, mm_K2, Int32.toInt_toInt64, List.length_cons, List.length_nil, vp_updL, upd, ↓reduceIte, not_true_eq_false, not_false_eq_true, mm_x0, mm_K3]) <;> (try simp (disch := omega) only [q_on, q_cl]) <;> omega) | fail) ?_
    conv => whnf
    refine And.intro (by first | decide | (unfold vp_in; decide) | ((try unfold vp_in) <;> (try simp only [lg_cmp_ge, lg_cmp_le, lg_cmp_gt, lg_cmp_lt, lg_cmp_eq]) <;> (try simp only [show (Int8.ofInt 40).toInt32 = Int32.ofNat 40 from rfl, show (Int8.ofInt 25).toInt32 = Int32.ofNat 25 from rfl, show (Int8.ofInt 24).toInt32 = Int32.ofNat 24 from rfl, show (Int16.ofInt 480).toInt32 = Int32.ofNat 480 from rfl, show Int32.ofInt 1 = Int32.ofNat 1 from rfl, show Int32.ofInt 0 = Int32.ofNat 0 from rfl, show (0 : Int32) = Int32.ofNat 0 from rfl, show (1 : Int32) = Int32.ofNat 1 from rfl]) <;> (try simp only [← Int32.ofNat_add, ← Int32.ofNat_mul]) <;> (try simp (disch := omega) only [q_cl, q_on, Nat.mul_zero, Nat.zero_mul, Nat.zero_add, Nat.add_zero, Nat.mul_one]) <;> (try simp only [Int32.lt_iff_toInt_lt, Int32.le_iff_toInt_le, ← Int32.toInt_inj, Int64.lt_iff_toInt_lt, Int64.le_iff_toInt_le, ← Int64.toInt_inj, ← Int32.toNat_toInt, mm_k0, mm_k1, mm_K0, mm_K1, mm_K2, Int32.toInt_toInt64, List.length_cons, List.length_nil, vp_updL, upd, ↓reduceIte, not_true_eq_false, not_false_eq_true, mm_x0, mm_K3]) <;> (try simp (disch := omega) only [q_on, q_cl]) <;> omega) | fail) ?_
    conv => whnf
    refine And.intro (by first | decide | (unfold vp_in; decide) | ((try unfold vp_in) <;> (try simp only [lg_cmp_ge, lg_cmp_le, lg_cmp_gt, lg_cmp_lt, lg_cmp_eq]) <;> (try simp only [show (Int8.ofInt 40).toInt32 = Int32.ofNat 40 from rfl, show (Int8.ofInt 25).toInt32 = Int32.ofNat 25 from rfl, show (Int8.ofInt 24).toInt32 = Int32.ofNat 24 from rfl, show (Int16.ofInt 480).toInt32 = Int32.ofNat 480 from rfl, show Int32.ofInt 1 = Int32.ofNat 1 from rfl, show Int32.ofInt 0 = Int32.ofNat 0 from rfl, show (0 : Int32) = Int32.ofNat 0 from rfl, show (1 : Int32) = Int32.ofNat 1 from rfl]) <;> (try simp only [← Int32.ofNat_add, ← Int32.ofNat_mul]) <;> (try simp (disch := omega) only [q_cl, q_on, Nat.mul_zero, Nat.zero_mul, Nat.zero_add, Nat.add_zero, Nat.mul_one]) <;> (try simp only [Int32.lt_iff_toInt_lt, Int32.le_iff_toInt_le, ← Int32.toInt_inj, Int64.lt_iff_toInt_lt, Int64.le_iff_toInt_le, ← Int64.toInt_inj, ← Int32.toNat_toInt, mm_k0, mm_k1, mm_K0, mm_K1, mm_K2, Int32.toInt_toInt64, List.length_cons, List.length_nil, vp_updL, upd, ↓reduceIte, not_true_eq_false, not_false_eq_true, mm_x0, mm_K3]) <;> (try simp (disch := omega) only [q_on, q_cl]) <;> omega) | fail) ?_
    conv => whnf
    rw [q_inc]
    exact hF _ _ _ _ _ _ _ _ _ (mm_more (lp_56f hK t (i + 1) N' _ (by omega) (by omega) (q_C_step hf (by (try simp only [show (Int8.ofInt 40).toInt32 = Int32.ofNat 40 from rfl, show (Int8.ofInt 25).toInt32 = Int32.ofNat 25 from rfl, show (Int8.ofInt 24).toInt32 = Int32.ofNat 24 from rfl, show (Int16.ofInt 480).toInt32 = Int32.ofNat 480 from rfl, show Int32.ofInt 1 = Int32.ofNat 1 from rfl, show Int32.ofInt 0 = Int32.ofNat 0 from rfl, show (0 : Int32) = Int32.ofNat 0 from rfl, show (1 : Int32) = Int32.ofNat 1 from rfl]) <;> (try simp only [← Int32.ofNat_add, ← Int32.ofNat_mul]) <;> (try simp (disch := omega) only [q_cl, Nat.mul_zero, Nat.zero_mul, Nat.zero_add, Nat.add_zero, Nat.mul_one]) <;> first | rfl | omega | fail) (by (try simp only [show (Int8.ofInt 40).toInt32 = Int32.ofNat 40 from rfl, show (Int8.ofInt 25).toInt32 = Int32.ofNat 25 from rfl, show (Int8.ofInt 24).toInt32 = Int32.ofNat 24 from rfl, show (Int16.ofInt 480).toInt32 = Int32.ofNat 480 from rfl, show Int32.ofInt 1 = Int32.ofNat 1 from rfl, show Int32.ofInt 0 = Int32.ofNat 0 from rfl, show (0 : Int32) = Int32.ofNat 0 from rfl, show (1 : Int32) = Int32.ofNat 1 from rfl]) <;> (try simp only [← Int32.ofNat_add, ← Int32.ofNat_mul]) <;> (try simp (disch := omega) only [q_cl, Nat.mul_zero, Nat.zero_mul, Nat.zero_add, Nat.add_zero, Nat.mul_one]) <;> first | rfl | omega | fail))) (Nat.le_add_right N' _) rfl ⟨rfl, rfl, trivial⟩)
set_option maxRecDepth 100000 in
set_option maxHeartbeats 40000000 in
theorem k_56 {L : Nat} {xs : Nat → Int32} {d sl : Nat} {Q : mm_K} (hT : ∀ j, j < 24 → (mT j).toInt.natAbs ≤ 1000) (hB : (mT 24).toInt.natAbs ≤ 100000000) (hz1 : (∀ j, j < 24 → (mT j).toInt = 0) → (mT 24).toInt < 0 → Q (.inl (some (.int 1))) (tb_H ln lf sr ss sc gv r1 r2 kp wd tm fa R O W ax mt ml mr 0 1 mf mg mR mF mT m1 m2 m3 ou) sl) (hz0 : (∀ j, j < 24 → (mT j).toInt = 0) → 0 ≤ (mT 24).toInt → Q (.inl (some (.int 1))) (tb_H ln lf sr ss sc gv r1 r2 kp wd tm fa R O W ax mt ml mr 0 0 mf mg mR mF mT m1 m2 m3 ou) sl) (hn : (∃ j, j < 24 ∧ (mT j).toInt ≠ 0) → ∀ T F : Nat → Int64, (∀ j, j < 24 → ((T j).toInt = 0 ↔ (mT j).toInt = 0) ∧ (T j).toInt.natAbs ≤ 1000) → (T 24).toInt.natAbs ≤ (mT 24).toInt.natAbs + 1 → (∀ j, j < 25 → F j = T j) → Q (.inl (some (.int 1))) (tb_H ln lf sr ss sc gv r1 r2 kp wd tm fa R O W ax mt ml mr 1 0 mf mg mR F T m1 m2 m3 ou) sl) : mm_call tb_P L xs (d + 3) 56 [.ref 82] (tb_H ln lf sr ss sc gv r1 r2 kp wd tm fa R O W ax mt ml mr 0 0 mf mg mR mF mT m1 m2 m3 ou) sl Q := by
  refine mm_run (fun k pc => (Nat.beq k 56 && Nat.beq pc 4)) (fun _ => false) (fun F C hF hC => ?_)
  refine Exists.intro 40000 ?_
  conv => whnf
  refine hF _ _ _ _ _ _ _ _ _ (mm_more (lp_56a hT (fun z hz => ?_) 24 0 30000 0 (by omega) (by omega) rfl) (by decide) rfl ⟨rfl, rfl, rfl, trivial⟩)
  clear hF hC
  refine mm_on (fun k pc => (Nat.beq k 56 && Nat.beq pc 35) || (Nat.beq k 56 && Nat.beq pc 81)) (fun _ => false) (fun F C hF hC => ?_)
  conv => whnf
  by_cases h0 : q_gs mT 24 = 0
  · have hzz : z.toInt = 0 := by omega
    have ha := q_gs_zero h0
    refine br_t (by first | decide | ((try simp only [lg_cmp_ge, lg_cmp_le, lg_cmp_gt, lg_cmp_lt, lg_cmp_eq]) <;> (try simp only [show (Int8.ofInt 40).toInt32 = Int32.ofNat 40 from rfl, show (Int8.ofInt 25).toInt32 = Int32.ofNat 25 from rfl, show (Int8.ofInt 24).toInt32 = Int32.ofNat 24 from rfl, show (Int16.ofInt 480).toInt32 = Int32.ofNat 480 from rfl, show Int32.ofInt 1 = Int32.ofNat 1 from rfl, show Int32.ofInt 0 = Int32.ofNat 0 from rfl, show (0 : Int32) = Int32.ofNat 0 from rfl, show (1 : Int32) = Int32.ofNat 1 from rfl]) <;> (try simp only [← Int32.ofNat_add, ← Int32.ofNat_mul]) <;> (try simp (disch := omega) only [q_cl, q_on, Nat.mul_zero, Nat.zero_mul, Nat.zero_add, Nat.add_zero, Nat.mul_one]) <;> (try simp only [Int32.lt_iff_toInt_lt, Int32.le_iff_toInt_le, ← Int32.toInt_inj, Int64.lt_iff_toInt_lt, Int64.le_iff_toInt_le, ← Int64.toInt_inj, ← Int32.toNat_toInt, mm_k0, mm_k1, mm_K0, mm_K1, mm_K2, Int32.toInt_toInt64, List.length_cons, List.length_nil, vp_updL, upd, ↓reduceIte, not_true_eq_false, not_false_eq_true, mm_x0, mm_K3, hzz]) <;> (try simp (disch := omega) only [q_on, q_cl]) <;> omega) | fail) ?_
    conv => whnf
    refine hF _ _ _ _ _ _ _ _ _ (mm_more (lp_56d (fun j hj => ?_) ?_ 25 0 4500 (by omega) (by omega)) (by decide) rfl ⟨rfl, rfl, rfl, trivial⟩)
    · by_cases h24 : j = 24
      · subst h24
        omega
      · have := hT j (by omega)
        omega
    · clear hF hC
      refine mm_on (fun k pc => false) (fun _ => false) (fun F C hF hC => ?_)
      conv => whnf
      refine br_f (by first | decide | ((try simp only [lg_cmp_ge, lg_cmp_le, lg_cmp_gt, lg_cmp_lt, lg_cmp_eq]) <;> (try simp only [show (Int8.ofInt 40).toInt32 = Int32.ofNat 40 from rfl, show (Int8.ofInt 25).toInt32 = Int32.ofNat 25 from rfl, show (Int8.ofInt 24).toInt32 = Int32.ofNat 24 from rfl, show (Int16.ofInt 480).toInt32 = Int32.ofNat 480 from rfl, show Int32.ofInt 1 = Int32.ofNat 1 from rfl, show Int32.ofInt 0 = Int32.ofNat 0 from rfl, show (0 : Int32) = Int32.ofNat 0 from rfl, show (1 : Int32) = Int32.ofNat 1 from rfl]) <;> (try simp only [← Int32.ofNat_add, ← Int32.ofNat_mul]) <;> (try simp (disch := omega) only [q_cl, q_on, Nat.mul_zero, Nat.zero_mul, Nat.zero_add, Nat.add_zero, Nat.mul_one]) <;> (try simp only [Int32.lt_iff_toInt_lt, Int32.le_iff_toInt_le, ← Int32.toInt_inj, Int64.lt_iff_toInt_lt, Int64.le_iff_toInt_le, ← Int64.toInt_inj, ← Int32.toNat_toInt, mm_k0, mm_k1, mm_K0, mm_K1, mm_K2, Int32.toInt_toInt64, List.length_cons, List.length_nil, vp_updL, upd, ↓reduceIte, not_true_eq_false, not_false_eq_true, mm_x0, mm_K3, hzz]) <;> (try simp (disch := omega) only [q_on, q_cl]) <;> omega) | fail) ?_
      conv => whnf
      refine br_f (by decide) ?_
      conv => whnf
      refine And.intro (by unfold vp_in; decide) ?_
      conv => whnf
      refine And.intro (fun h => ?_) (fun h => ?_) <;> (simp only [lg_cmp_ge] at h) <;> (simp only [Int64.le_iff_toInt_le, mm_k0] at h) <;> conv => whnf
      · refine And.intro (by decide) ?_
        conv => whnf
        exact And.intro (by decide) (hz0 ha h)
      · refine And.intro (by decide) ?_
        conv => whnf
        exact And.intro (by decide) (hz1 ha (by have h' : ¬ 0 ≤ (mT 24).toInt := h; omega))
  · have hzz : 0 < z.toInt := by omega
    have he : ∃ j, j < 24 ∧ (mT j).toInt ≠ 0 := by
      refine Classical.byContradiction (fun hc => h0 (q_gs_zero' (fun j hj => Classical.byContradiction (fun hj' => hc ⟨j, hj, hj'⟩))))
    refine br_f (by first | decide | ((try simp only [lg_cmp_ge, lg_cmp_le, lg_cmp_gt, lg_cmp_lt, lg_cmp_eq]) <;> (try simp only [show (Int8.ofInt 40).toInt32 = Int32.ofNat 40 from rfl, show (Int8.ofInt 25).toInt32 = Int32.ofNat 25 from rfl, show (Int8.ofInt 24).toInt32 = Int32.ofNat 24 from rfl, show (Int16.ofInt 480).toInt32 = Int32.ofNat 480 from rfl, show Int32.ofInt 1 = Int32.ofNat 1 from rfl, show Int32.ofInt 0 = Int32.ofNat 0 from rfl, show (0 : Int32) = Int32.ofNat 0 from rfl, show (1 : Int32) = Int32.ofNat 1 from rfl]) <;> (try simp only [← Int32.ofNat_add, ← Int32.ofNat_mul]) <;> (try simp (disch := omega) only [q_cl, q_on, Nat.mul_zero, Nat.zero_mul, Nat.zero_add, Nat.add_zero, Nat.mul_one]) <;> (try simp only [Int32.lt_iff_toInt_lt, Int32.le_iff_toInt_le, ← Int32.toInt_inj, Int64.lt_iff_toInt_lt, Int64.le_iff_toInt_le, ← Int64.toInt_inj, ← Int32.toNat_toInt, mm_k0, mm_k1, mm_K0, mm_K1, mm_K2, Int32.toInt_toInt64, List.length_cons, List.length_nil, vp_updL, upd, ↓reduceIte, not_true_eq_false, not_false_eq_true, mm_x0, mm_K3]) <;> (try simp (disch := omega) only [q_on, q_cl]) <;> omega) | fail) ?_
    conv => whnf
    refine hF _ _ _ _ _ _ _ _ _ (mm_more (lp_56b hzz (fun j hj => by rw [hz]; exact q_gs_dvd hj) hT (fun T hP => ?_) 24 0 10000 mT (by omega) (by omega) (q_P_zero _ _)) (by decide) rfl ⟨rfl, rfl, rfl, trivial⟩)
    clear hF hC
    have e24 : T 24 = mT 24 := hP.2 24 (Nat.le_refl 24)
    refine lp_56c hzz (by rw [e24]; exact hB) (fun v hv => ?_)
    rw [e24] at hv
    have hT' : ∀ j, j < 24 → ((vp_updL T 24 v j).toInt = 0 ↔ (mT j).toInt = 0) ∧ (vp_updL T 24 v j).toInt.natAbs ≤ 1000 := by
      intro j hj
      have h1 := hP.1 j hj
      have h2 := hT j hj
      unfold vp_updL
      rw [if_neg (by omega)]
      exact ⟨h1.1, by omega⟩
    have h24 : vp_updL T 24 v 24 = v := by
      unfold vp_updL
      rw [if_pos rfl]
    refine lp_56d (fun j hj => ?_) ?_ 25 0 4500 (by omega) (by omega)
    · by_cases hj24 : j = 24
      · subst hj24
        rw [h24]
        omega
      · have := (hT' j (by omega)).2
        omega
    · refine mm_on (fun k pc => (Nat.beq k 56 && Nat.beq pc 281)) (fun _ => false) (fun F C hF hC => ?_)
      conv => whnf
      refine br_t (by first | decide | ((try simp only [lg_cmp_ge, lg_cmp_le, lg_cmp_gt, lg_cmp_lt, lg_cmp_eq]) <;> (try simp only [show (Int8.ofInt 40).toInt32 = Int32.ofNat 40 from rfl, show (Int8.ofInt 25).toInt32 = Int32.ofNat 25 from rfl, show (Int8.ofInt 24).toInt32 = Int32.ofNat 24 from rfl, show (Int16.ofInt 480).toInt32 = Int32.ofNat 480 from rfl, show Int32.ofInt 1 = Int32.ofNat 1 from rfl, show Int32.ofInt 0 = Int32.ofNat 0 from rfl, show (0 : Int32) = Int32.ofNat 0 from rfl, show (1 : Int32) = Int32.ofNat 1 from rfl]) <;> (try simp only [← Int32.ofNat_add, ← Int32.ofNat_mul]) <;> (try simp (disch := omega) only [q_cl, q_on, Nat.mul_zero, Nat.zero_mul, Nat.zero_add, Nat.add_zero, Nat.mul_one]) <;> (try simp only [Int32.lt_iff_toInt_lt, Int32.le_iff_toInt_le, ← Int32.toInt_inj, Int64.lt_iff_toInt_lt, Int64.le_iff_toInt_le, ← Int64.toInt_inj, ← Int32.toNat_toInt, mm_k0, mm_k1, mm_K0, mm_K1, mm_K2, Int32.toInt_toInt64, List.length_cons, List.length_nil, vp_updL, upd, ↓reduceIte, not_true_eq_false, not_false_eq_true, mm_x0, mm_K3]) <;> (try simp (disch := omega) only [q_on, q_cl]) <;> omega) | fail) ?_
      conv => whnf
      refine br_t (by decide) ?_
      conv => whnf
      refine br_t (by decide) ?_
      conv => whnf
      exact hF _ _ _ _ _ _ _ _ _ (mm_more (lp_56f (fun F' hF' => hn he _ F' hT' (by rw [h24]; exact hv) hF') 25 0 2000 _ (by omega) (by omega) (fun j hj => absurd hj (Nat.not_lt_zero j))) (by decide) rfl ⟨rfl, rfl, trivial⟩)
set_option maxRecDepth 100000 in
set_option maxHeartbeats 40000000 in
theorem k_58a {L : Nat} {xs : Nat → Int32} {d sl : Nat} {Q : mm_K} (hQ : Q (.inl none) (tb_H ln lf sr ss sc gv r1 r2 kp wd tm fa R O W ax mt ml 0 0 mfa mf mg mR mF mT m1 m2 m3 ou) sl) : mm_call tb_P L xs (d + 1) 58 [.ref 82] (tb_H ln lf sr ss sc gv r1 r2 kp wd tm fa R O W ax mt ml mr 0 mfa mf mg mR mF mT m1 m2 m3 ou) sl Q := by
  refine mm_run (fun _ _ => false) (fun _ => false) (fun F C hF hC => ?_)
  refine Exists.intro 200 ?_
  conv => whnf
  refine br_t (by decide) ?_
  conv => whnf
  exact hQ
set_option maxRecDepth 100000 in
set_option maxHeartbeats 40000000 in
theorem lp_58 {L : Nat} {xs : Nat → Int32} {d sl : Nat} {Q : mm_K} (hK : ∀ mR : Nat → Int64, (∀ j, j < 25 → mR j = mF j) → Q (.inl none) (tb_H ln lf sr ss sc gv r1 r2 kp wd tm fa R O W ax mt ml 1 0 mfa mf mg mR mF mT m1 m2 m3 ou) sl) : ∀ (t i N : Nat) (mR : Nat → Int64), i + t = 25 → 40 * t + 40 ≤ N → (∀ j, j < i → mR j = mF j) → mm_w tb_P L xs (mm_call tb_P L xs d) 58 N 10 [(1, .int (Int32.ofNat i)), (0, .ref 82)] [] (tb_H ln lf sr ss sc gv r1 r2 kp wd tm fa R O W ax mt ml 1 1 mfa mf mg mR mF mT m1 m2 m3 ou) sl Q
  | 0, i, N, f, hi, hN, hf => by
    obtain ⟨N', rfl⟩ : ∃ N', N = N' + 40 := ⟨N - 40, by omega⟩
    obtain rfl : i = 25 := by omega
    refine mm_on (fun k pc => (Nat.beq k 58 && Nat.beq pc 10)) (fun _ => false) (fun F C hF hC => ?_)
    conv => whnf
    refine br_t (by first | decide | ((try simp only [lg_cmp_ge, lg_cmp_le, lg_cmp_gt, lg_cmp_lt, lg_cmp_eq]) <;> (try simp only [show (Int8.ofInt 40).toInt32 = Int32.ofNat 40 from rfl, show (Int8.ofInt 25).toInt32 = Int32.ofNat 25 from rfl, show (Int8.ofInt 24).toInt32 = Int32.ofNat 24 from rfl, show (Int16.ofInt 480).toInt32 = Int32.ofNat 480 from rfl, show Int32.ofInt 1 = Int32.ofNat 1 from rfl, show Int32.ofInt 0 = Int32.ofNat 0 from rfl, show (0 : Int32) = Int32.ofNat 0 from rfl, show (1 : Int32) = Int32.ofNat 1 from rfl]) <;> (try simp only [← Int32.ofNat_add, ← Int32.ofNat_mul]) <;> (try simp (disch := omega) only [q_cl, q_on, Nat.mul_zero, Nat.zero_mul, Nat.zero_add, Nat.add_zero, Nat.mul_one]) <;> (try simp only [Int32.lt_iff_toInt_lt, Int32.le_iff_toInt_le, ← Int32.toInt_inj, Int64.lt_iff_toInt_lt, Int64.le_iff_toInt_le, ← Int64.toInt_inj, ← Int32.toNat_toInt, mm_k0, mm_k1, mm_K0, mm_K1, mm_K2, Int32.toInt_toInt64, List.length_cons, List.length_nil, vp_updL, upd, ↓reduceIte, not_true_eq_false, not_false_eq_true, mm_x0, mm_K3]) <;> (try simp (disch := omega) only [q_on, q_cl]) <;> omega) | fail) ?_
    conv => whnf
    exact hK f hf
  | t + 1, i, N, f, hi, hN, hf => by
    obtain ⟨N', rfl⟩ : ∃ N', N = N' + 40 := ⟨N - 40, by omega⟩
    refine mm_on (fun k pc => (Nat.beq k 58 && Nat.beq pc 10)) (fun _ => false) (fun F C hF hC => ?_)
    conv => whnf
    refine br_f (by first | decide | ((try simp only [lg_cmp_ge, lg_cmp_le, lg_cmp_gt, lg_cmp_lt, lg_cmp_eq]) <;> (try simp only [show (Int8.ofInt 40).toInt32 = Int32.ofNat 40 from rfl, show (Int8.ofInt 25).toInt32 = Int32.ofNat 25 from rfl, show (Int8.ofInt 24).toInt32 = Int32.ofNat 24 from rfl, show (Int16.ofInt 480).toInt32 = Int32.ofNat 480 from rfl, show Int32.ofInt 1 = Int32.ofNat 1 from rfl, show Int32.ofInt 0 = Int32.ofNat 0 from rfl, show (0 : Int32) = Int32.ofNat 0 from rfl, show (1 : Int32) = Int32.ofNat 1 from rfl]) <;> (try simp only [← Int32.ofNat_add, ← Int32.ofNat_mul]) <;> (try simp (disch := omega) only [q_cl, q_on, Nat.mul_zero, Nat.zero_mul, Nat.zero_add, Nat.add_zero, Nat.mul_one]) <;> (try simp only [Int32.lt_iff_toInt_lt, Int32.le_iff_toInt_le, ← Int32.toInt_inj, Int64.lt_iff_toInt_lt, Int64.le_iff_toInt_le, ← Int64.toInt_inj, ← Int32.toNat_toInt, mm_k0, mm_k1, mm_K0, mm_K1, mm_K2, Int32.toInt_toInt64, List.length_cons, List.length_nil, vp_updL, upd, ↓reduceIte, not_true_eq_false, not_false_eq_true, mm_x0, mm_K3]) <;> (try simp (disch := omega) only [q_on, q_cl]) <;> omega) | fail) ?_
    conv => whnf
    refine And.intro (by first | decide | (unfold vp_in; decide) | ((try unfold vp_in) <;> (try simp only [lg_cmp_ge, lg_cmp_le, lg_cmp_gt, lg_cmp_lt, lg_cmp_eq]) <;> (try simp only [show (Int8.ofInt 40).toInt32 = Int32.ofNat 40 from rfl, show (Int8.ofInt 25).toInt32 = Int32.ofNat 25 from rfl, show (Int8.ofInt 24).toInt32 = Int32.ofNat 24 from rfl, show (Int16.ofInt 480).toInt32 = Int32.ofNat 480 from rfl, show Int32.ofInt 1 = Int32.ofNat 1 from rfl, show Int32.ofInt 0 = Int32.ofNat 0 from rfl, show (0 : Int32) = Int32.ofNat 0 from rfl, show (1 : Int32) = Int32.ofNat 1 from rfl]) <;> (try simp only [← Int32.ofNat_add, ← Int32.ofNat_mul]) <;> (try simp (disch := omega) only [q_cl, q_on, Nat.mul_zero, Nat.zero_mul, Nat.zero_add, Nat.add_zero, Nat.mul_one]) <;> (try simp only [Int32.lt_iff_toInt_lt, Int32.le_iff_toInt_le, ← Int32.toInt_inj, Int64.lt_iff_toInt_lt, Int64.le_iff_toInt_le, ← Int64.toInt_inj, ← Int32.toNat_toInt, mm_k0, mm_k1, mm_K0, mm_K1, mm_K2, Int32.toInt_toInt64, List.length_cons, List.length_nil, vp_updL, upd, ↓reduceIte, not_true_eq_false, not_false_eq_true, mm_x0, mm_K3]) <;> (try simp (disch := omega) only [q_on, q_cl]) <;> omega) | fail) ?_
    conv => whnf
    refine And.intro (by first | decide | (unfold vp_in; decide) | ((try unfold vp_in) <;> (try simp only [lg_cmp_ge, lg_cmp_le, lg_cmp_gt, lg_cmp_lt, lg_cmp_eq]) <;> (try simp only [show (Int8.ofInt 40).toInt32 = Int32.ofNat 40 from rfl, show (Int8.ofInt 25).toInt32 = Int32.ofNat 25 from rfl, show (Int8.ofInt 24).toInt32 = Int32.ofNat 24 from rfl, show (Int16.ofInt 480).toInt32 = Int32.ofNat 480 from rfl, show Int32.ofInt 1 = Int32.ofNat 1 from rfl, show Int32.ofInt 0 = Int32.ofNat 0 from rfl, show (0 : Int32) = Int32.ofNat 0 from rfl, show (1 : Int32) = Int32.ofNat 1 from rfl]) <;> (try simp only [← Int32.ofNat_add, ← Int32.ofNat_mul]) <;> (try simp (disch := omega) only [q_cl, q_on, Nat.mul_zero, Nat.zero_mul, Nat.zero_add, Nat.add_zero, Nat.mul_one]) <;> (try simp only [Int32.lt_iff_toInt_lt, Int32.le_iff_toInt_le, ← Int32.toInt_inj, Int64.lt_iff_toInt_lt, Int64.le_iff_toInt_le, ← Int64.toInt_inj, ← Int32.toNat_toInt, mm_k0, mm_k1, mm_K0, mm_K1, mm_K2, Int32.toInt_toInt64, List.length_cons, List.length_nil, vp_updL, upd, ↓reduceIte, not_true_eq_false, not_false_eq_true, mm_x0, mm_K3]) <;> (try simp (disch := omega) only [q_on, q_cl]) <;> omega) | fail) ?_
    conv => whnf
    rw [q_inc]
    exact hF _ _ _ _ _ _ _ _ _ (mm_more (lp_58 hK t (i + 1) N' _ (by omega) (by omega) (q_C_step hf (by (try simp only [show (Int8.ofInt 40).toInt32 = Int32.ofNat 40 from rfl, show (Int8.ofInt 25).toInt32 = Int32.ofNat 25 from rfl, show (Int8.ofInt 24).toInt32 = Int32.ofNat 24 from rfl, show (Int16.ofInt 480).toInt32 = Int32.ofNat 480 from rfl, show Int32.ofInt 1 = Int32.ofNat 1 from rfl, show Int32.ofInt 0 = Int32.ofNat 0 from rfl, show (0 : Int32) = Int32.ofNat 0 from rfl, show (1 : Int32) = Int32.ofNat 1 from rfl]) <;> (try simp only [← Int32.ofNat_add, ← Int32.ofNat_mul]) <;> (try simp (disch := omega) only [q_cl, Nat.mul_zero, Nat.zero_mul, Nat.zero_add, Nat.add_zero, Nat.mul_one]) <;> first | rfl | omega | fail) (by (try simp only [show (Int8.ofInt 40).toInt32 = Int32.ofNat 40 from rfl, show (Int8.ofInt 25).toInt32 = Int32.ofNat 25 from rfl, show (Int8.ofInt 24).toInt32 = Int32.ofNat 24 from rfl, show (Int16.ofInt 480).toInt32 = Int32.ofNat 480 from rfl, show Int32.ofInt 1 = Int32.ofNat 1 from rfl, show Int32.ofInt 0 = Int32.ofNat 0 from rfl, show (0 : Int32) = Int32.ofNat 0 from rfl, show (1 : Int32) = Int32.ofNat 1 from rfl]) <;> (try simp only [← Int32.ofNat_add, ← Int32.ofNat_mul]) <;> (try simp (disch := omega) only [q_cl, Nat.mul_zero, Nat.zero_mul, Nat.zero_add, Nat.add_zero, Nat.mul_one]) <;> first | rfl | omega | fail))) (Nat.le_add_right N' _) rfl ⟨rfl, rfl, trivial⟩)
set_option maxRecDepth 100000 in
set_option maxHeartbeats 40000000 in
theorem k_58b {L : Nat} {xs : Nat → Int32} {d sl : Nat} {Q : mm_K} (hK : ∀ mR : Nat → Int64, (∀ j, j < 25 → mR j = mF j) → Q (.inl none) (tb_H ln lf sr ss sc gv r1 r2 kp wd tm fa R O W ax mt ml 1 0 mfa mf mg mR mF mT m1 m2 m3 ou) sl) : mm_call tb_P L xs (d + 1) 58 [.ref 82] (tb_H ln lf sr ss sc gv r1 r2 kp wd tm fa R O W ax mt ml mr 1 mfa mf mg mR mF mT m1 m2 m3 ou) sl Q := by
  refine mm_run (fun k pc => (Nat.beq k 58 && Nat.beq pc 10)) (fun _ => false) (fun F C hF hC => ?_)
  refine Exists.intro 2000 ?_
  conv => whnf
  exact hF _ _ _ _ _ _ _ _ _ (mm_more (lp_58 hK 25 0 1500 _ (by omega) (by omega) (fun j hj => absurd hj (Nat.not_lt_zero j))) (by decide) rfl ⟨rfl, rfl, trivial⟩)
set_option maxRecDepth 100000 in
set_option maxHeartbeats 40000000 in
theorem k_57a {L : Nat} {xs : Nat → Int32} {d sl : Nat} {Q : mm_K} {v : Int32} (hQ : Q (.inl (some (.int 1))) (tb_H ln lf sr ss sc gv r1 r2 kp wd tm fa R O W ax mt ml 0 mfr mfa mf mg mR mF mT m1 m2 m3 ou) sl) : mm_call tb_P L xs (d + 1) 57 [.ref 82, .int v] (tb_H ln lf sr ss sc gv r1 r2 kp wd tm fa R O W ax mt ml 0 mfr mfa mf mg mR mF mT m1 m2 m3 ou) sl Q := by
  refine mm_run (fun _ _ => false) (fun _ => false) (fun F C hF hC => ?_)
  refine Exists.intro 200 ?_
  conv => whnf
  refine br_t (by decide) ?_
  conv => whnf
  exact And.intro (by decide) hQ
set_option maxRecDepth 100000 in
set_option maxHeartbeats 40000000 in
theorem lp_57 {L : Nat} {xs : Nat → Int32} {d sl : Nat} {Q : mm_K} {p : Int64} {v : Int32} (hK : ∀ mT : Nat → Int64, (∀ j, j < 25 → mT j = mR j) → mm_w tb_P L xs (mm_call tb_P L xs d) 57 2000 63 [(3, .long p), (2, .int 0), (0, .ref 82), (1, .int v)] [] (tb_H ln lf sr ss sc gv r1 r2 kp wd tm fa R O W ax mt ml mr mfr mfa mf mg mR mF mT m1 m2 m3 ou) sl Q) : ∀ (t i N : Nat) (mT : Nat → Int64), i + t = 25 → 40 * t + 2040 ≤ N → (∀ j, j < i → mT j = mR j) → mm_w tb_P L xs (mm_call tb_P L xs d) 57 N 31 [(5, .int (Int32.ofNat i)), (3, .long p), (2, .int 0), (0, .ref 82), (1, .int v)] [] (tb_H ln lf sr ss sc gv r1 r2 kp wd tm fa R O W ax mt ml mr mfr mfa mf mg mR mF mT m1 m2 m3 ou) sl Q
  | 0, i, N, f, hi, hN, hf => by
    obtain ⟨N', rfl⟩ : ∃ N', N = N' + 40 := ⟨N - 40, by omega⟩
    obtain rfl : i = 25 := by omega
    refine mm_on (fun k pc => (Nat.beq k 57 && Nat.beq pc 31) || (Nat.beq k 57 && Nat.beq pc 63)) (fun _ => false) (fun F C hF hC => ?_)
    conv => whnf
    refine br_t (by first | decide | ((try simp only [lg_cmp_ge, lg_cmp_le, lg_cmp_gt, lg_cmp_lt, lg_cmp_eq]) <;> (try simp only [show (Int8.ofInt 40).toInt32 = Int32.ofNat 40 from rfl, show (Int8.ofInt 25).toInt32 = Int32.ofNat 25 from rfl, show (Int8.ofInt 24).toInt32 = Int32.ofNat 24 from rfl, show (Int16.ofInt 480).toInt32 = Int32.ofNat 480 from rfl, show Int32.ofInt 1 = Int32.ofNat 1 from rfl, show Int32.ofInt 0 = Int32.ofNat 0 from rfl, show (0 : Int32) = Int32.ofNat 0 from rfl, show (1 : Int32) = Int32.ofNat 1 from rfl]) <;> (try simp only [← Int32.ofNat_add, ← Int32.ofNat_mul]) <;> (try simp (disch := omega) only [q_cl, q_on, Nat.mul_zero, Nat.zero_mul, Nat.zero_add, Nat.add_zero, Nat.mul_one]) <;> (try simp only [Int32.lt_iff_toInt_lt, Int32.le_iff_toInt_le, ← Int32.toInt_inj, Int64.lt_iff_toInt_lt, Int64.le_iff_toInt_le, ← Int64.toInt_inj, ← Int32.toNat_toInt, mm_k0, mm_k1, mm_K0, mm_K1, mm_K2, Int32.toInt_toInt64, List.length_cons, List.length_nil, vp_updL, upd, ↓reduceIte, not_true_eq_false, not_false_eq_true, mm_x0, mm_K3]) <;> (try simp (disch := omega) only [q_on, q_cl]) <;> omega) | fail) ?_
    conv => whnf
    exact hF _ _ _ _ _ _ _ _ _ (mm_more (hK f hf) (by omega) rfl ⟨rfl, rfl, rfl, rfl, trivial⟩)
  | t + 1, i, N, f, hi, hN, hf => by
    obtain ⟨N', rfl⟩ : ∃ N', N = N' + 40 := ⟨N - 40, by omega⟩
    refine mm_on (fun k pc => (Nat.beq k 57 && Nat.beq pc 31) || (Nat.beq k 57 && Nat.beq pc 63)) (fun _ => false) (fun F C hF hC => ?_)
    conv => whnf
    refine br_f (by first | decide | ((try simp only [lg_cmp_ge, lg_cmp_le, lg_cmp_gt, lg_cmp_lt, lg_cmp_eq]) <;> (try simp only [show (Int8.ofInt 40).toInt32 = Int32.ofNat 40 from rfl, show (Int8.ofInt 25).toInt32 = Int32.ofNat 25 from rfl, show (Int8.ofInt 24).toInt32 = Int32.ofNat 24 from rfl, show (Int16.ofInt 480).toInt32 = Int32.ofNat 480 from rfl, show Int32.ofInt 1 = Int32.ofNat 1 from rfl, show Int32.ofInt 0 = Int32.ofNat 0 from rfl, show (0 : Int32) = Int32.ofNat 0 from rfl, show (1 : Int32) = Int32.ofNat 1 from rfl]) <;> (try simp only [← Int32.ofNat_add, ← Int32.ofNat_mul]) <;> (try simp (disch := omega) only [q_cl, q_on, Nat.mul_zero, Nat.zero_mul, Nat.zero_add, Nat.add_zero, Nat.mul_one]) <;> (try simp only [Int32.lt_iff_toInt_lt, Int32.le_iff_toInt_le, ← Int32.toInt_inj, Int64.lt_iff_toInt_lt, Int64.le_iff_toInt_le, ← Int64.toInt_inj, ← Int32.toNat_toInt, mm_k0, mm_k1, mm_K0, mm_K1, mm_K2, Int32.toInt_toInt64, List.length_cons, List.length_nil, vp_updL, upd, ↓reduceIte, not_true_eq_false, not_false_eq_true, mm_x0, mm_K3]) <;> (try simp (disch := omega) only [q_on, q_cl]) <;> omega) | fail) ?_
    conv => whnf
    refine And.intro (by first | decide | (unfold vp_in; decide) | ((try unfold vp_in) <;> (try simp only [lg_cmp_ge, lg_cmp_le, lg_cmp_gt, lg_cmp_lt, lg_cmp_eq]) <;> (try simp only [show (Int8.ofInt 40).toInt32 = Int32.ofNat 40 from rfl, show (Int8.ofInt 25).toInt32 = Int32.ofNat 25 from rfl, show (Int8.ofInt 24).toInt32 = Int32.ofNat 24 from rfl, show (Int16.ofInt 480).toInt32 = Int32.ofNat 480 from rfl, show Int32.ofInt 1 = Int32.ofNat 1 from rfl, show Int32.ofInt 0 = Int32.ofNat 0 from rfl, show (0 : Int32) = Int32.ofNat 0 from rfl, show (1 : Int32) = Int32.ofNat 1 from rfl]) <;> (try simp only [← Int32.ofNat_add, ← Int32.ofNat_mul]) <;> (try simp (disch := omega) only [q_cl, q_on, Nat.mul_zero, Nat.zero_mul, Nat.zero_add, Nat.add_zero, Nat.mul_one]) <;> (try simp only [Int32.lt_iff_toInt_lt, Int32.le_iff_toInt_le, ← Int32.toInt_inj, Int64.lt_iff_toInt_lt, Int64.le_iff_toInt_le, ← Int64.toInt_inj, ← Int32.toNat_toInt, mm_k0, mm_k1, mm_K0, mm_K1, mm_K2, Int32.toInt_toInt64, List.length_cons, List.length_nil, vp_updL, upd, ↓reduceIte, not_true_eq_false, not_false_eq_true, mm_x0, mm_K3]) <;> (try simp (disch := omega) only [q_on, q_cl]) <;> omega) | fail) ?_
    conv => whnf
    refine And.intro (by first | decide | (unfold vp_in; decide) | ((try unfold vp_in) <;> (try simp only [lg_cmp_ge, lg_cmp_le, lg_cmp_gt, lg_cmp_lt, lg_cmp_eq]) <;> (try simp only [show (Int8.ofInt 40).toInt32 = Int32.ofNat 40 from rfl, show (Int8.ofInt 25).toInt32 = Int32.ofNat 25 from rfl, show (Int8.ofInt 24).toInt32 = Int32.ofNat 24 from rfl, show (Int16.ofInt 480).toInt32 = Int32.ofNat 480 from rfl, show Int32.ofInt 1 = Int32.ofNat 1 from rfl, show Int32.ofInt 0 = Int32.ofNat 0 from rfl, show (0 : Int32) = Int32.ofNat 0 from rfl, show (1 : Int32) = Int32.ofNat 1 from rfl]) <;> (try simp only [← Int32.ofNat_add, ← Int32.ofNat_mul]) <;> (try simp (disch := omega) only [q_cl, q_on, Nat.mul_zero, Nat.zero_mul, Nat.zero_add, Nat.add_zero, Nat.mul_one]) <;> (try simp only [Int32.lt_iff_toInt_lt, Int32.le_iff_toInt_le, ← Int32.toInt_inj, Int64.lt_iff_toInt_lt, Int64.le_iff_toInt_le, ← Int64.toInt_inj, ← Int32.toNat_toInt, mm_k0, mm_k1, mm_K0, mm_K1, mm_K2, Int32.toInt_toInt64, List.length_cons, List.length_nil, vp_updL, upd, ↓reduceIte, not_true_eq_false, not_false_eq_true, mm_x0, mm_K3]) <;> (try simp (disch := omega) only [q_on, q_cl]) <;> omega) | fail) ?_
    conv => whnf
    rw [q_inc]
    exact hF _ _ _ _ _ _ _ _ _ (mm_more (lp_57 hK t (i + 1) N' _ (by omega) (by omega) (q_C_step hf (by (try simp only [show (Int8.ofInt 40).toInt32 = Int32.ofNat 40 from rfl, show (Int8.ofInt 25).toInt32 = Int32.ofNat 25 from rfl, show (Int8.ofInt 24).toInt32 = Int32.ofNat 24 from rfl, show (Int16.ofInt 480).toInt32 = Int32.ofNat 480 from rfl, show Int32.ofInt 1 = Int32.ofNat 1 from rfl, show Int32.ofInt 0 = Int32.ofNat 0 from rfl, show (0 : Int32) = Int32.ofNat 0 from rfl, show (1 : Int32) = Int32.ofNat 1 from rfl]) <;> (try simp only [← Int32.ofNat_add, ← Int32.ofNat_mul]) <;> (try simp (disch := omega) only [q_cl, Nat.mul_zero, Nat.zero_mul, Nat.zero_add, Nat.add_zero, Nat.mul_one]) <;> first | rfl | omega | fail) (by (try simp only [show (Int8.ofInt 40).toInt32 = Int32.ofNat 40 from rfl, show (Int8.ofInt 25).toInt32 = Int32.ofNat 25 from rfl, show (Int8.ofInt 24).toInt32 = Int32.ofNat 24 from rfl, show (Int16.ofInt 480).toInt32 = Int32.ofNat 480 from rfl, show Int32.ofInt 1 = Int32.ofNat 1 from rfl, show Int32.ofInt 0 = Int32.ofNat 0 from rfl, show (0 : Int32) = Int32.ofNat 0 from rfl, show (1 : Int32) = Int32.ofNat 1 from rfl]) <;> (try simp only [← Int32.ofNat_add, ← Int32.ofNat_mul]) <;> (try simp (disch := omega) only [q_cl, Nat.mul_zero, Nat.zero_mul, Nat.zero_add, Nat.add_zero, Nat.mul_one]) <;> first | rfl | omega | fail))) (Nat.le_add_right N' _) rfl ⟨rfl, rfl, rfl, rfl, rfl, trivial⟩)
set_option maxRecDepth 100000 in
set_option maxHeartbeats 40000000 in
theorem k_57b {L : Nat} {xs : Nat → Int32} {d sl : Nat} {Q : mm_K} {v : Int32} (hv0 : 0 ≤ v.toInt) (hv1 : v.toInt < 24) (hR : ∀ j, j < 24 → (mR j).toInt.natAbs ≤ 1000) (hB : (mR 24).toInt.natAbs ≤ 100000000) (hE : ∃ j, j < 24 ∧ (mR j).toInt ≠ 0) (hQ : Q (.inl (some (.int 1))) (tb_H ln lf sr ss sc gv r1 r2 kp wd tm fa R O W ax mt ml 1 0 0 mf mg mR mF mT m1 m2 m3 ou) sl) (hn : ∀ T F : Nat → Int64, (∀ j, j < 24 → ((T j).toInt = 0 ↔ (mR j).toInt = 0) ∧ (T j).toInt.natAbs ≤ 1000) → (T 24).toInt.natAbs ≤ (mR 24).toInt.natAbs + 1 → (∀ j, j < 25 → F j = T j) → Q (.inl (some (.int 1))) (tb_H ln lf sr ss sc gv r1 r2 kp wd tm fa R O W ax mt ml 1 1 0 mf mg mR F T m1 m2 m3 ou) sl) : mm_call tb_P L xs (d + 4) 57 [.ref 82, .int v] (tb_H ln lf sr ss sc gv r1 r2 kp wd tm fa R O W ax mt ml 1 0 0 mf mg mR mF mT m1 m2 m3 ou) sl Q := by
  obtain ⟨vn, rfl, hv2, hv3⟩ := q_of hv0
  have hvn : vn < 24 := by omega
  have hx : ∀ (x : Int32), x.toNatClampNeg = vn → mR x.toNatClampNeg = mR vn := fun x h => by rw [h]
  refine mm_run (fun k pc => (Nat.beq k 57 && Nat.beq pc 31)) (fun _ => false) (fun F C hF hC => ?_)
  refine Exists.intro 5000 ?_
  conv => whnf
  refine br_f (by decide) ?_
  conv => whnf
  refine And.intro (by first | decide | (unfold vp_in; decide) | ((try unfold vp_in) <;> (try simp only [lg_cmp_ge, lg_cmp_le, lg_cmp_gt, lg_cmp_lt, lg_cmp_eq]) <;> (try simp only [show (Int8.ofInt 40).toInt32 = Int32.ofNat 40 from rfl, show (Int8.ofInt 25).toInt32 = Int32.ofNat 25 from rfl, show (Int8.ofInt 24).toInt32 = Int32.ofNat 24 from rfl, show (Int16.ofInt 480).toInt32 = Int32.ofNat 480 from rfl, show Int32.ofInt 1 = Int32.ofNat 1 from rfl, show Int32.ofInt 0 = Int32.ofNat 0 from rfl, show (0 : Int32) = Int32.ofNat 0 from rfl, show (1 : Int32) = Int32.ofNat 1 from rfl]) <;> (try simp only [← Int32.ofNat_add, ← Int32.ofNat_mul]) <;> (try simp (disch := omega) only [q_cl, q_on, Nat.mul_zero, Nat.zero_mul, Nat.zero_add, Nat.add_zero, Nat.mul_one]) <;> (try simp only [Int32.lt_iff_toInt_lt, Int32.le_iff_toInt_le, ← Int32.toInt_inj, Int64.lt_iff_toInt_lt, Int64.le_iff_toInt_le, ← Int64.toInt_inj, ← Int32.toNat_toInt, mm_k0, mm_k1, mm_K0, mm_K1, mm_K2, Int32.toInt_toInt64, List.length_cons, List.length_nil, vp_updL, upd, ↓reduceIte, not_true_eq_false, not_false_eq_true, mm_x0, mm_K3]) <;> (try simp (disch := omega) only [q_on, q_cl]) <;> omega) | fail) ?_
  conv => whnf
  by_cases hp : (mR vn).toInt = 0
  · refine br_f (by first | decide | ((try simp only [lg_cmp_ge, lg_cmp_le, lg_cmp_gt, lg_cmp_lt, lg_cmp_eq]) <;> (try simp only [show (Int8.ofInt 40).toInt32 = Int32.ofNat 40 from rfl, show (Int8.ofInt 25).toInt32 = Int32.ofNat 25 from rfl, show (Int8.ofInt 24).toInt32 = Int32.ofNat 24 from rfl, show (Int16.ofInt 480).toInt32 = Int32.ofNat 480 from rfl, show Int32.ofInt 1 = Int32.ofNat 1 from rfl, show Int32.ofInt 0 = Int32.ofNat 0 from rfl, show (0 : Int32) = Int32.ofNat 0 from rfl, show (1 : Int32) = Int32.ofNat 1 from rfl]) <;> (try simp only [← Int32.ofNat_add, ← Int32.ofNat_mul]) <;> (try simp (disch := omega) only [q_cl, q_on, Nat.mul_zero, Nat.zero_mul, Nat.zero_add, Nat.add_zero, Nat.mul_one]) <;> (try simp only [Int32.lt_iff_toInt_lt, Int32.le_iff_toInt_le, ← Int32.toInt_inj, Int64.lt_iff_toInt_lt, Int64.le_iff_toInt_le, ← Int64.toInt_inj, ← Int32.toNat_toInt, mm_k0, mm_k1, mm_K0, mm_K1, mm_K2, Int32.toInt_toInt64, List.length_cons, List.length_nil, vp_updL, upd, ↓reduceIte, not_true_eq_false, not_false_eq_true, mm_x0, mm_K3]) <;> (try simp (disch := omega) only [q_on, q_cl]) <;> omega) | fail) ?_
    conv => whnf
    refine hF _ _ _ _ _ _ _ _ _ (mm_more (lp_57 (fun T hT => ?_) 25 0 4000 _ (by omega) (by omega) (fun j hj => absurd hj (Nat.not_lt_zero j))) (by decide) rfl ⟨rfl, rfl, rfl, rfl, rfl, trivial⟩)
    clear hF hC
    refine mm_on (fun _ _ => false) (fun _ => false) (fun F C hF hC => ?_)
    conv => whnf
    refine hC _ _ _ _ _ _ (k_56 (fun j hj => by rw [hT j (by omega)]; exact hR j hj) (by rw [hT 24 (by omega)]; exact hB) (fun ha => ?_) (fun ha => ?_) (fun _ T' F' h1 h2 h3 => ?_))
    · obtain ⟨j, hj, hne⟩ := hE
      exact absurd (by rw [← hT j (by omega)]; exact ha j hj) hne
    · obtain ⟨j, hj, hne⟩ := hE
      exact absurd (by rw [← hT j (by omega)]; exact ha j hj) hne
    · have hq := hn T' F' (fun j hj => by rw [← hT j (by omega)]; exact h1 j hj) (by rw [← hT 24 (by omega)]; exact h2) h3
      conv => whnf
      repeat' (first
        | exact And.intro (by decide) hq
        | (refine br_t (by first | decide | ((try simp only [lg_cmp_ge, lg_cmp_le, lg_cmp_gt, lg_cmp_lt, lg_cmp_eq]) <;> (try simp only [show (Int8.ofInt 40).toInt32 = Int32.ofNat 40 from rfl, show (Int8.ofInt 25).toInt32 = Int32.ofNat 25 from rfl, show (Int8.ofInt 24).toInt32 = Int32.ofNat 24 from rfl, show (Int16.ofInt 480).toInt32 = Int32.ofNat 480 from rfl, show Int32.ofInt 1 = Int32.ofNat 1 from rfl, show Int32.ofInt 0 = Int32.ofNat 0 from rfl, show (0 : Int32) = Int32.ofNat 0 from rfl, show (1 : Int32) = Int32.ofNat 1 from rfl]) <;> (try simp only [← Int32.ofNat_add, ← Int32.ofNat_mul]) <;> (try simp (disch := omega) only [q_cl, q_on, Nat.mul_zero, Nat.zero_mul, Nat.zero_add, Nat.add_zero, Nat.mul_one]) <;> (try simp only [Int32.lt_iff_toInt_lt, Int32.le_iff_toInt_le, ← Int32.toInt_inj, Int64.lt_iff_toInt_lt, Int64.le_iff_toInt_le, ← Int64.toInt_inj, ← Int32.toNat_toInt, mm_k0, mm_k1, mm_K0, mm_K1, mm_K2, Int32.toInt_toInt64, List.length_cons, List.length_nil, vp_updL, upd, ↓reduceIte, not_true_eq_false, not_false_eq_true, mm_x0, mm_K3]) <;> (try simp (disch := omega) only [q_on, q_cl]) <;> omega) | fail) ?_; conv => whnf)
        | (refine br_f (by first | decide | ((try simp only [lg_cmp_ge, lg_cmp_le, lg_cmp_gt, lg_cmp_lt, lg_cmp_eq]) <;> (try simp only [show (Int8.ofInt 40).toInt32 = Int32.ofNat 40 from rfl, show (Int8.ofInt 25).toInt32 = Int32.ofNat 25 from rfl, show (Int8.ofInt 24).toInt32 = Int32.ofNat 24 from rfl, show (Int16.ofInt 480).toInt32 = Int32.ofNat 480 from rfl, show Int32.ofInt 1 = Int32.ofNat 1 from rfl, show Int32.ofInt 0 = Int32.ofNat 0 from rfl, show (0 : Int32) = Int32.ofNat 0 from rfl, show (1 : Int32) = Int32.ofNat 1 from rfl]) <;> (try simp only [← Int32.ofNat_add, ← Int32.ofNat_mul]) <;> (try simp (disch := omega) only [q_cl, q_on, Nat.mul_zero, Nat.zero_mul, Nat.zero_add, Nat.add_zero, Nat.mul_one]) <;> (try simp only [Int32.lt_iff_toInt_lt, Int32.le_iff_toInt_le, ← Int32.toInt_inj, Int64.lt_iff_toInt_lt, Int64.le_iff_toInt_le, ← Int64.toInt_inj, ← Int32.toNat_toInt, mm_k0, mm_k1, mm_K0, mm_K1, mm_K2, Int32.toInt_toInt64, List.length_cons, List.length_nil, vp_updL, upd, ↓reduceIte, not_true_eq_false, not_false_eq_true, mm_x0, mm_K3]) <;> (try simp (disch := omega) only [q_on, q_cl]) <;> omega) | fail) ?_; conv => whnf))
  · refine br_t (by first | decide | ((try simp only [lg_cmp_ge, lg_cmp_le, lg_cmp_gt, lg_cmp_lt, lg_cmp_eq]) <;> (try simp only [show (Int8.ofInt 40).toInt32 = Int32.ofNat 40 from rfl, show (Int8.ofInt 25).toInt32 = Int32.ofNat 25 from rfl, show (Int8.ofInt 24).toInt32 = Int32.ofNat 24 from rfl, show (Int16.ofInt 480).toInt32 = Int32.ofNat 480 from rfl, show Int32.ofInt 1 = Int32.ofNat 1 from rfl, show Int32.ofInt 0 = Int32.ofNat 0 from rfl, show (0 : Int32) = Int32.ofNat 0 from rfl, show (1 : Int32) = Int32.ofNat 1 from rfl]) <;> (try simp only [← Int32.ofNat_add, ← Int32.ofNat_mul]) <;> (try simp (disch := omega) only [q_cl, q_on, Nat.mul_zero, Nat.zero_mul, Nat.zero_add, Nat.add_zero, Nat.mul_one]) <;> (try simp only [Int32.lt_iff_toInt_lt, Int32.le_iff_toInt_le, ← Int32.toInt_inj, Int64.lt_iff_toInt_lt, Int64.le_iff_toInt_le, ← Int64.toInt_inj, ← Int32.toNat_toInt, mm_k0, mm_k1, mm_K0, mm_K1, mm_K2, Int32.toInt_toInt64, List.length_cons, List.length_nil, vp_updL, upd, ↓reduceIte, not_true_eq_false, not_false_eq_true, mm_x0, mm_K3]) <;> (try simp (disch := omega) only [q_on, q_cl]) <;> omega) | fail) ?_
    conv => whnf
    by_cases hp2 : 0 < (mR vn).toInt
    · have hpn : (-mR vn).toInt = -(mR vn).toInt := q_neg64 (by have := hR vn hvn; omega)
      repeat' (first
        | exact And.intro (by decide) hQ
        | (refine br_t (by first | decide | ((try simp only [lg_cmp_ge, lg_cmp_le, lg_cmp_gt, lg_cmp_lt, lg_cmp_eq]) <;> (try simp only [show (Int8.ofInt 40).toInt32 = Int32.ofNat 40 from rfl, show (Int8.ofInt 25).toInt32 = Int32.ofNat 25 from rfl, show (Int8.ofInt 24).toInt32 = Int32.ofNat 24 from rfl, show (Int16.ofInt 480).toInt32 = Int32.ofNat 480 from rfl, show Int32.ofInt 1 = Int32.ofNat 1 from rfl, show Int32.ofInt 0 = Int32.ofNat 0 from rfl, show (0 : Int32) = Int32.ofNat 0 from rfl, show (1 : Int32) = Int32.ofNat 1 from rfl]) <;> (try simp only [← Int32.ofNat_add, ← Int32.ofNat_mul]) <;> (try simp (disch := omega) only [q_cl, q_on, Nat.mul_zero, Nat.zero_mul, Nat.zero_add, Nat.add_zero, Nat.mul_one]) <;> (try simp only [Int32.lt_iff_toInt_lt, Int32.le_iff_toInt_le, ← Int32.toInt_inj, Int64.lt_iff_toInt_lt, Int64.le_iff_toInt_le, ← Int64.toInt_inj, ← Int32.toNat_toInt, mm_k0, mm_k1, mm_K0, mm_K1, mm_K2, Int32.toInt_toInt64, List.length_cons, List.length_nil, vp_updL, upd, ↓reduceIte, not_true_eq_false, not_false_eq_true, mm_x0, mm_K3, hpn]) <;> (try simp (disch := omega) only [q_on, q_cl]) <;> omega) | fail) ?_; conv => whnf)
        | (refine br_f (by first | decide | ((try simp only [lg_cmp_ge, lg_cmp_le, lg_cmp_gt, lg_cmp_lt, lg_cmp_eq]) <;> (try simp only [show (Int8.ofInt 40).toInt32 = Int32.ofNat 40 from rfl, show (Int8.ofInt 25).toInt32 = Int32.ofNat 25 from rfl, show (Int8.ofInt 24).toInt32 = Int32.ofNat 24 from rfl, show (Int16.ofInt 480).toInt32 = Int32.ofNat 480 from rfl, show Int32.ofInt 1 = Int32.ofNat 1 from rfl, show Int32.ofInt 0 = Int32.ofNat 0 from rfl, show (0 : Int32) = Int32.ofNat 0 from rfl, show (1 : Int32) = Int32.ofNat 1 from rfl]) <;> (try simp only [← Int32.ofNat_add, ← Int32.ofNat_mul]) <;> (try simp (disch := omega) only [q_cl, q_on, Nat.mul_zero, Nat.zero_mul, Nat.zero_add, Nat.add_zero, Nat.mul_one]) <;> (try simp only [Int32.lt_iff_toInt_lt, Int32.le_iff_toInt_le, ← Int32.toInt_inj, Int64.lt_iff_toInt_lt, Int64.le_iff_toInt_le, ← Int64.toInt_inj, ← Int32.toNat_toInt, mm_k0, mm_k1, mm_K0, mm_K1, mm_K2, Int32.toInt_toInt64, List.length_cons, List.length_nil, vp_updL, upd, ↓reduceIte, not_true_eq_false, not_false_eq_true, mm_x0, mm_K3, hpn]) <;> (try simp (disch := omega) only [q_on, q_cl]) <;> omega) | fail) ?_; conv => whnf)
        | (refine And.intro (by first | decide | (unfold vp_in; decide) | ((try unfold vp_in) <;> (try simp only [lg_cmp_ge, lg_cmp_le, lg_cmp_gt, lg_cmp_lt, lg_cmp_eq]) <;> (try simp only [show (Int8.ofInt 40).toInt32 = Int32.ofNat 40 from rfl, show (Int8.ofInt 25).toInt32 = Int32.ofNat 25 from rfl, show (Int8.ofInt 24).toInt32 = Int32.ofNat 24 from rfl, show (Int16.ofInt 480).toInt32 = Int32.ofNat 480 from rfl, show Int32.ofInt 1 = Int32.ofNat 1 from rfl, show Int32.ofInt 0 = Int32.ofNat 0 from rfl, show (0 : Int32) = Int32.ofNat 0 from rfl, show (1 : Int32) = Int32.ofNat 1 from rfl]) <;> (try simp only [← Int32.ofNat_add, ← Int32.ofNat_mul]) <;> (try simp (disch := omega) only [q_cl, q_on, Nat.mul_zero, Nat.zero_mul, Nat.zero_add, Nat.add_zero, Nat.mul_one]) <;> (try simp only [Int32.lt_iff_toInt_lt, Int32.le_iff_toInt_le, ← Int32.toInt_inj, Int64.lt_iff_toInt_lt, Int64.le_iff_toInt_le, ← Int64.toInt_inj, ← Int32.toNat_toInt, mm_k0, mm_k1, mm_K0, mm_K1, mm_K2, Int32.toInt_toInt64, List.length_cons, List.length_nil, vp_updL, upd, ↓reduceIte, not_true_eq_false, not_false_eq_true, mm_x0, mm_K3]) <;> (try simp (disch := omega) only [q_on, q_cl]) <;> omega) | fail) ?_; conv => whnf))
    · repeat' (first
        | exact And.intro (by decide) hQ
        | (refine br_t (by first | decide | ((try simp only [lg_cmp_ge, lg_cmp_le, lg_cmp_gt, lg_cmp_lt, lg_cmp_eq]) <;> (try simp only [show (Int8.ofInt 40).toInt32 = Int32.ofNat 40 from rfl, show (Int8.ofInt 25).toInt32 = Int32.ofNat 25 from rfl, show (Int8.ofInt 24).toInt32 = Int32.ofNat 24 from rfl, show (Int16.ofInt 480).toInt32 = Int32.ofNat 480 from rfl, show Int32.ofInt 1 = Int32.ofNat 1 from rfl, show Int32.ofInt 0 = Int32.ofNat 0 from rfl, show (0 : Int32) = Int32.ofNat 0 from rfl, show (1 : Int32) = Int32.ofNat 1 from rfl]) <;> (try simp only [← Int32.ofNat_add, ← Int32.ofNat_mul]) <;> (try simp (disch := omega) only [q_cl, q_on, Nat.mul_zero, Nat.zero_mul, Nat.zero_add, Nat.add_zero, Nat.mul_one]) <;> (try simp only [Int32.lt_iff_toInt_lt, Int32.le_iff_toInt_le, ← Int32.toInt_inj, Int64.lt_iff_toInt_lt, Int64.le_iff_toInt_le, ← Int64.toInt_inj, ← Int32.toNat_toInt, mm_k0, mm_k1, mm_K0, mm_K1, mm_K2, Int32.toInt_toInt64, List.length_cons, List.length_nil, vp_updL, upd, ↓reduceIte, not_true_eq_false, not_false_eq_true, mm_x0, mm_K3]) <;> (try simp (disch := omega) only [q_on, q_cl]) <;> omega) | fail) ?_; conv => whnf)
        | (refine br_f (by first | decide | ((try simp only [lg_cmp_ge, lg_cmp_le, lg_cmp_gt, lg_cmp_lt, lg_cmp_eq]) <;> (try simp only [show (Int8.ofInt 40).toInt32 = Int32.ofNat 40 from rfl, show (Int8.ofInt 25).toInt32 = Int32.ofNat 25 from rfl, show (Int8.ofInt 24).toInt32 = Int32.ofNat 24 from rfl, show (Int16.ofInt 480).toInt32 = Int32.ofNat 480 from rfl, show Int32.ofInt 1 = Int32.ofNat 1 from rfl, show Int32.ofInt 0 = Int32.ofNat 0 from rfl, show (0 : Int32) = Int32.ofNat 0 from rfl, show (1 : Int32) = Int32.ofNat 1 from rfl]) <;> (try simp only [← Int32.ofNat_add, ← Int32.ofNat_mul]) <;> (try simp (disch := omega) only [q_cl, q_on, Nat.mul_zero, Nat.zero_mul, Nat.zero_add, Nat.add_zero, Nat.mul_one]) <;> (try simp only [Int32.lt_iff_toInt_lt, Int32.le_iff_toInt_le, ← Int32.toInt_inj, Int64.lt_iff_toInt_lt, Int64.le_iff_toInt_le, ← Int64.toInt_inj, ← Int32.toNat_toInt, mm_k0, mm_k1, mm_K0, mm_K1, mm_K2, Int32.toInt_toInt64, List.length_cons, List.length_nil, vp_updL, upd, ↓reduceIte, not_true_eq_false, not_false_eq_true, mm_x0, mm_K3]) <;> (try simp (disch := omega) only [q_on, q_cl]) <;> omega) | fail) ?_; conv => whnf))
set_option maxRecDepth 100000 in
set_option maxHeartbeats 40000000 in
theorem lp_59 {L : Nat} {xs : Nat → Int32} {d sl : Nat} {Q : mm_K} (hK : ∀ mT : Nat → Int64, (∀ j, j < 25 → mT j = -mg j) → mm_w tb_P L xs (mm_call tb_P L xs d) 59 5000 91 [(0, .ref 82)] [] (tb_H ln lf sr ss sc gv r1 r2 kp wd tm fa R O W ax mt ml mr mfr mfa mf mg mR mF mT m1 m2 m3 ou) sl Q) : ∀ (t i N : Nat) (mT : Nat → Int64), i + t = 25 → 40 * t + 5040 ≤ N → (∀ j, j < i → mT j = -mg j) → mm_w tb_P L xs (mm_call tb_P L xs d) 59 N 66 [(3, .int (Int32.ofNat i)), (0, .ref 82)] [] (tb_H ln lf sr ss sc gv r1 r2 kp wd tm fa R O W ax mt ml mr mfr mfa mf mg mR mF mT m1 m2 m3 ou) sl Q
  | 0, i, N, f, hi, hN, hf => by
    obtain ⟨N', rfl⟩ : ∃ N', N = N' + 40 := ⟨N - 40, by omega⟩
    obtain rfl : i = 25 := by omega
    refine mm_on (fun k pc => (Nat.beq k 59 && Nat.beq pc 66) || (Nat.beq k 59 && Nat.beq pc 91)) (fun _ => false) (fun F C hF hC => ?_)
    conv => whnf
    refine br_t (by first | decide | ((try simp only [lg_cmp_ge, lg_cmp_le, lg_cmp_gt, lg_cmp_lt, lg_cmp_eq]) <;> (try simp only [show (Int8.ofInt 40).toInt32 = Int32.ofNat 40 from rfl, show (Int8.ofInt 25).toInt32 = Int32.ofNat 25 from rfl, show (Int8.ofInt 24).toInt32 = Int32.ofNat 24 from rfl, show (Int16.ofInt 480).toInt32 = Int32.ofNat 480 from rfl, show Int32.ofInt 1 = Int32.ofNat 1 from rfl, show Int32.ofInt 0 = Int32.ofNat 0 from rfl, show (0 : Int32) = Int32.ofNat 0 from rfl, show (1 : Int32) = Int32.ofNat 1 from rfl]) <;> (try simp only [← Int32.ofNat_add, ← Int32.ofNat_mul]) <;> (try simp (disch := omega) only [q_cl, q_on, Nat.mul_zero, Nat.zero_mul, Nat.zero_add, Nat.add_zero, Nat.mul_one]) <;> (try simp only [Int32.lt_iff_toInt_lt, Int32.le_iff_toInt_le, ← Int32.toInt_inj, Int64.lt_iff_toInt_lt, Int64.le_iff_toInt_le, ← Int64.toInt_inj, ← Int32.toNat_toInt, mm_k0, mm_k1, mm_K0, mm_K1, mm_K2, Int32.toInt_toInt64, List.length_cons, List.length_nil, vp_updL, upd, ↓reduceIte, not_true_eq_false, not_false_eq_true, mm_x0, mm_K3]) <;> (try simp (disch := omega) only [q_on, q_cl]) <;> omega) | fail) ?_
    conv => whnf
    exact hF _ _ _ _ _ _ _ _ _ (mm_more (hK f hf) (by omega) rfl ⟨rfl, trivial⟩)
  | t + 1, i, N, f, hi, hN, hf => by
    obtain ⟨N', rfl⟩ : ∃ N', N = N' + 40 := ⟨N - 40, by omega⟩
    refine mm_on (fun k pc => (Nat.beq k 59 && Nat.beq pc 66) || (Nat.beq k 59 && Nat.beq pc 91)) (fun _ => false) (fun F C hF hC => ?_)
    conv => whnf
    refine br_f (by first | decide | ((try simp only [lg_cmp_ge, lg_cmp_le, lg_cmp_gt, lg_cmp_lt, lg_cmp_eq]) <;> (try simp only [show (Int8.ofInt 40).toInt32 = Int32.ofNat 40 from rfl, show (Int8.ofInt 25).toInt32 = Int32.ofNat 25 from rfl, show (Int8.ofInt 24).toInt32 = Int32.ofNat 24 from rfl, show (Int16.ofInt 480).toInt32 = Int32.ofNat 480 from rfl, show Int32.ofInt 1 = Int32.ofNat 1 from rfl, show Int32.ofInt 0 = Int32.ofNat 0 from rfl, show (0 : Int32) = Int32.ofNat 0 from rfl, show (1 : Int32) = Int32.ofNat 1 from rfl]) <;> (try simp only [← Int32.ofNat_add, ← Int32.ofNat_mul]) <;> (try simp (disch := omega) only [q_cl, q_on, Nat.mul_zero, Nat.zero_mul, Nat.zero_add, Nat.add_zero, Nat.mul_one]) <;> (try simp only [Int32.lt_iff_toInt_lt, Int32.le_iff_toInt_le, ← Int32.toInt_inj, Int64.lt_iff_toInt_lt, Int64.le_iff_toInt_le, ← Int64.toInt_inj, ← Int32.toNat_toInt, mm_k0, mm_k1, mm_K0, mm_K1, mm_K2, Int32.toInt_toInt64, List.length_cons, List.length_nil, vp_updL, upd, ↓reduceIte, not_true_eq_false, not_false_eq_true, mm_x0, mm_K3]) <;> (try simp (disch := omega) only [q_on, q_cl]) <;> omega) | fail) ?_
    conv => whnf
    refine And.intro (by first | decide | (unfold vp_in; decide) | ((try unfold vp_in) <;> (try simp only [lg_cmp_ge, lg_cmp_le, lg_cmp_gt, lg_cmp_lt, lg_cmp_eq]) <;> (try simp only [show (Int8.ofInt 40).toInt32 = Int32.ofNat 40 from rfl, show (Int8.ofInt 25).toInt32 = Int32.ofNat 25 from rfl, show (Int8.ofInt 24).toInt32 = Int32.ofNat 24 from rfl, show (Int16.ofInt 480).toInt32 = Int32.ofNat 480 from rfl, show Int32.ofInt 1 = Int32.ofNat 1 from rfl, show Int32.ofInt 0 = Int32.ofNat 0 from rfl, show (0 : Int32) = Int32.ofNat 0 from rfl, show (1 : Int32) = Int32.ofNat 1 from rfl]) <;> (try simp only [← Int32.ofNat_add, ← Int32.ofNat_mul]) <;> (try simp (disch := omega) only [q_cl, q_on, Nat.mul_zero, Nat.zero_mul, Nat.zero_add, Nat.add_zero, Nat.mul_one]) <;> (try simp only [Int32.lt_iff_toInt_lt, Int32.le_iff_toInt_le, ← Int32.toInt_inj, Int64.lt_iff_toInt_lt, Int64.le_iff_toInt_le, ← Int64.toInt_inj, ← Int32.toNat_toInt, mm_k0, mm_k1, mm_K0, mm_K1, mm_K2, Int32.toInt_toInt64, List.length_cons, List.length_nil, vp_updL, upd, ↓reduceIte, not_true_eq_false, not_false_eq_true, mm_x0, mm_K3]) <;> (try simp (disch := omega) only [q_on, q_cl]) <;> omega) | fail) ?_
    conv => whnf
    refine And.intro (by first | decide | (unfold vp_in; decide) | ((try unfold vp_in) <;> (try simp only [lg_cmp_ge, lg_cmp_le, lg_cmp_gt, lg_cmp_lt, lg_cmp_eq]) <;> (try simp only [show (Int8.ofInt 40).toInt32 = Int32.ofNat 40 from rfl, show (Int8.ofInt 25).toInt32 = Int32.ofNat 25 from rfl, show (Int8.ofInt 24).toInt32 = Int32.ofNat 24 from rfl, show (Int16.ofInt 480).toInt32 = Int32.ofNat 480 from rfl, show Int32.ofInt 1 = Int32.ofNat 1 from rfl, show Int32.ofInt 0 = Int32.ofNat 0 from rfl, show (0 : Int32) = Int32.ofNat 0 from rfl, show (1 : Int32) = Int32.ofNat 1 from rfl]) <;> (try simp only [← Int32.ofNat_add, ← Int32.ofNat_mul]) <;> (try simp (disch := omega) only [q_cl, q_on, Nat.mul_zero, Nat.zero_mul, Nat.zero_add, Nat.add_zero, Nat.mul_one]) <;> (try simp only [Int32.lt_iff_toInt_lt, Int32.le_iff_toInt_le, ← Int32.toInt_inj, Int64.lt_iff_toInt_lt, Int64.le_iff_toInt_le, ← Int64.toInt_inj, ← Int32.toNat_toInt, mm_k0, mm_k1, mm_K0, mm_K1, mm_K2, Int32.toInt_toInt64, List.length_cons, List.length_nil, vp_updL, upd, ↓reduceIte, not_true_eq_false, not_false_eq_true, mm_x0, mm_K3]) <;> (try simp (disch := omega) only [q_on, q_cl]) <;> omega) | fail) ?_
    conv => whnf
    rw [q_inc]
    exact hF _ _ _ _ _ _ _ _ _ (mm_more (lp_59 hK t (i + 1) N' _ (by omega) (by omega) (q_N_step hf (by (try simp only [show (Int8.ofInt 40).toInt32 = Int32.ofNat 40 from rfl, show (Int8.ofInt 25).toInt32 = Int32.ofNat 25 from rfl, show (Int8.ofInt 24).toInt32 = Int32.ofNat 24 from rfl, show (Int16.ofInt 480).toInt32 = Int32.ofNat 480 from rfl, show Int32.ofInt 1 = Int32.ofNat 1 from rfl, show Int32.ofInt 0 = Int32.ofNat 0 from rfl, show (0 : Int32) = Int32.ofNat 0 from rfl, show (1 : Int32) = Int32.ofNat 1 from rfl]) <;> (try simp only [← Int32.ofNat_add, ← Int32.ofNat_mul]) <;> (try simp (disch := omega) only [q_cl, Nat.mul_zero, Nat.zero_mul, Nat.zero_add, Nat.add_zero, Nat.mul_one]) <;> first | rfl | omega | fail) (by (try simp only [show (Int8.ofInt 40).toInt32 = Int32.ofNat 40 from rfl, show (Int8.ofInt 25).toInt32 = Int32.ofNat 25 from rfl, show (Int8.ofInt 24).toInt32 = Int32.ofNat 24 from rfl, show (Int16.ofInt 480).toInt32 = Int32.ofNat 480 from rfl, show Int32.ofInt 1 = Int32.ofNat 1 from rfl, show Int32.ofInt 0 = Int32.ofNat 0 from rfl, show (0 : Int32) = Int32.ofNat 0 from rfl, show (1 : Int32) = Int32.ofNat 1 from rfl]) <;> (try simp only [← Int32.ofNat_add, ← Int32.ofNat_mul]) <;> (try simp (disch := omega) only [q_cl, Nat.mul_zero, Nat.zero_mul, Nat.zero_add, Nat.add_zero, Nat.mul_one]) <;> first | rfl | omega | fail))) (Nat.le_add_right N' _) rfl ⟨rfl, rfl, trivial⟩)
set_option maxRecDepth 100000 in
set_option maxHeartbeats 40000000 in
theorem lp_59A {L : Nat} {xs : Nat → Int32} {d sl : Nat} {Q : mm_K} (hQ : ∀ (mr mfr : Int32) (mT mF mR : Nat → Int64), Q (.inl (some (.int 0))) (tb_H ln lf sr ss sc gv r1 r2 kp wd tm fa R O W ax mt ml mr mfr 0 mf mg mR mF mT m1 m2 m3 ou) sl) : ∀ (t N : Nat) (v mr : Int32), v.toInt = (t : Int) - 1 → t ≤ 24 → 40 * t + 40 ≤ N → mm_w tb_P L xs (mm_call tb_P L xs (d + 4)) 59 N 119 [(3, .int v), (0, .ref 82)] [] (tb_H ln lf sr ss sc gv r1 r2 kp wd tm fa R O W ax mt ml mr 0 0 mf mg mR mF mT m1 m2 m3 ou) sl Q
  | 0, N, v, mr, hv, ht, hN => by
    obtain ⟨N', rfl⟩ : ∃ N', N = N' + 40 := ⟨N - 40, by omega⟩
    refine mm_on (fun k pc => (Nat.beq k 59 && Nat.beq pc 119)) (fun _ => false) (fun F C hF hC => ?_)
    conv => whnf
    refine br_t (by first | decide | ((try simp only [lg_cmp_ge, lg_cmp_le, lg_cmp_gt, lg_cmp_lt, lg_cmp_eq]) <;> (try simp only [show (Int8.ofInt 40).toInt32 = Int32.ofNat 40 from rfl, show (Int8.ofInt 25).toInt32 = Int32.ofNat 25 from rfl, show (Int8.ofInt 24).toInt32 = Int32.ofNat 24 from rfl, show (Int16.ofInt 480).toInt32 = Int32.ofNat 480 from rfl, show Int32.ofInt 1 = Int32.ofNat 1 from rfl, show Int32.ofInt 0 = Int32.ofNat 0 from rfl, show (0 : Int32) = Int32.ofNat 0 from rfl, show (1 : Int32) = Int32.ofNat 1 from rfl]) <;> (try simp only [← Int32.ofNat_add, ← Int32.ofNat_mul]) <;> (try simp (disch := omega) only [q_cl, q_on, Nat.mul_zero, Nat.zero_mul, Nat.zero_add, Nat.add_zero, Nat.mul_one]) <;> (try simp only [Int32.lt_iff_toInt_lt, Int32.le_iff_toInt_le, ← Int32.toInt_inj, Int64.lt_iff_toInt_lt, Int64.le_iff_toInt_le, ← Int64.toInt_inj, ← Int32.toNat_toInt, mm_k0, mm_k1, mm_K0, mm_K1, mm_K2, Int32.toInt_toInt64, List.length_cons, List.length_nil, vp_updL, upd, ↓reduceIte, not_true_eq_false, not_false_eq_true, mm_x0, mm_K3, hv, show (Int32.ofInt (-1)).toInt = -1 from rfl]) <;> (try simp (disch := omega) only [q_on, q_cl]) <;> omega) | fail) ?_
    conv => whnf
    exact And.intro (by decide) (hQ _ _ _ _ _)
  | t + 1, N, v, mr, hv, ht, hN => by
    obtain ⟨N', rfl⟩ : ∃ N', N = N' + 40 := ⟨N - 40, by omega⟩
    have hv' : (v + Int32.ofInt (-1)).toInt = v.toInt - 1 := by rw [q_add32 (by have : (Int32.ofInt (-1)).toInt = -1 := rfl; omega) (by have : (Int32.ofInt (-1)).toInt = -1 := rfl; omega), show (Int32.ofInt (-1)).toInt = -1 from rfl]; omega
    refine mm_on (fun k pc => (Nat.beq k 59 && Nat.beq pc 119)) (fun _ => false) (fun F C hF hC => ?_)
    conv => whnf
    refine br_f (by first | decide | ((try simp only [lg_cmp_ge, lg_cmp_le, lg_cmp_gt, lg_cmp_lt, lg_cmp_eq]) <;> (try simp only [show (Int8.ofInt 40).toInt32 = Int32.ofNat 40 from rfl, show (Int8.ofInt 25).toInt32 = Int32.ofNat 25 from rfl, show (Int8.ofInt 24).toInt32 = Int32.ofNat 24 from rfl, show (Int16.ofInt 480).toInt32 = Int32.ofNat 480 from rfl, show Int32.ofInt 1 = Int32.ofNat 1 from rfl, show Int32.ofInt 0 = Int32.ofNat 0 from rfl, show (0 : Int32) = Int32.ofNat 0 from rfl, show (1 : Int32) = Int32.ofNat 1 from rfl]) <;> (try simp only [← Int32.ofNat_add, ← Int32.ofNat_mul]) <;> (try simp (disch := omega) only [q_cl, q_on, Nat.mul_zero, Nat.zero_mul, Nat.zero_add, Nat.add_zero, Nat.mul_one]) <;> (try simp only [Int32.lt_iff_toInt_lt, Int32.le_iff_toInt_le, ← Int32.toInt_inj, Int64.lt_iff_toInt_lt, Int64.le_iff_toInt_le, ← Int64.toInt_inj, ← Int32.toNat_toInt, mm_k0, mm_k1, mm_K0, mm_K1, mm_K2, Int32.toInt_toInt64, List.length_cons, List.length_nil, vp_updL, upd, ↓reduceIte, not_true_eq_false, not_false_eq_true, mm_x0, mm_K3, hv, show (Int32.ofInt (-1)).toInt = -1 from rfl]) <;> (try simp (disch := omega) only [q_on, q_cl]) <;> omega) | fail) ?_
    conv => whnf
    refine br_f (by decide) ?_
    conv => whnf
    refine hC _ _ _ _ _ _ (k_58a ?_)
    conv => whnf
    refine hC _ _ _ _ _ _ (k_57a ?_)
    conv => whnf
    refine br_t (by decide) ?_
    conv => whnf
    exact hF _ _ _ _ _ _ _ _ _ (mm_more (lp_59A hQ t N' _ _ (by omega) (by omega) (by omega)) (Nat.le_add_right N' _) rfl ⟨rfl, rfl, trivial⟩)
set_option maxRecDepth 100000 in
set_option maxHeartbeats 40000000 in
theorem lp_59B {L : Nat} {xs : Nat → Int32} {d sl : Nat} {Q : mm_K} (hQ : ∀ (mr mfr : Int32) (mT mF mR : Nat → Int64), Q (.inl (some (.int 0))) (tb_H ln lf sr ss sc gv r1 r2 kp wd tm fa R O W ax mt ml mr mfr 0 mf mg mR mF mT m1 m2 m3 ou) sl) : ∀ (t N : Nat) (v mr : Int32) (mT mF mR : Nat → Int64), v.toInt = (t : Int) - 1 → t ≤ 24 → 40 * t + 2040 ≤ N → (∀ j, j < 24 → (mF j).toInt.natAbs ≤ 1000) → (mF 24).toInt.natAbs + t ≤ 50000000 → (∃ j, j < 24 ∧ (mF j).toInt ≠ 0) → mm_w tb_P L xs (mm_call tb_P L xs (d + 4)) 59 N 119 [(3, .int v), (0, .ref 82)] [] (tb_H ln lf sr ss sc gv r1 r2 kp wd tm fa R O W ax mt ml mr 1 0 mf mg mR mF mT m1 m2 m3 ou) sl Q
  | 0, N, v, mr, T, F, R, hv, ht, hN, h1, h2, h3 => by
    obtain ⟨N', rfl⟩ : ∃ N', N = N' + 40 := ⟨N - 40, by omega⟩
    refine mm_on (fun k pc => (Nat.beq k 59 && Nat.beq pc 119)) (fun _ => false) (fun F C hF hC => ?_)
    conv => whnf
    refine br_t (by first | decide | ((try simp only [lg_cmp_ge, lg_cmp_le, lg_cmp_gt, lg_cmp_lt, lg_cmp_eq]) <;> (try simp only [show (Int8.ofInt 40).toInt32 = Int32.ofNat 40 from rfl, show (Int8.ofInt 25).toInt32 = Int32.ofNat 25 from rfl, show (Int8.ofInt 24).toInt32 = Int32.ofNat 24 from rfl, show (Int16.ofInt 480).toInt32 = Int32.ofNat 480 from rfl, show Int32.ofInt 1 = Int32.ofNat 1 from rfl, show Int32.ofInt 0 = Int32.ofNat 0 from rfl, show (0 : Int32) = Int32.ofNat 0 from rfl, show (1 : Int32) = Int32.ofNat 1 from rfl]) <;> (try simp only [← Int32.ofNat_add, ← Int32.ofNat_mul]) <;> (try simp (disch := omega) only [q_cl, q_on, Nat.mul_zero, Nat.zero_mul, Nat.zero_add, Nat.add_zero, Nat.mul_one]) <;> (try simp only [Int32.lt_iff_toInt_lt, Int32.le_iff_toInt_le, ← Int32.toInt_inj, Int64.lt_iff_toInt_lt, Int64.le_iff_toInt_le, ← Int64.toInt_inj, ← Int32.toNat_toInt, mm_k0, mm_k1, mm_K0, mm_K1, mm_K2, Int32.toInt_toInt64, List.length_cons, List.length_nil, vp_updL, upd, ↓reduceIte, not_true_eq_false, not_false_eq_true, mm_x0, mm_K3, hv, show (Int32.ofInt (-1)).toInt = -1 from rfl]) <;> (try simp (disch := omega) only [q_on, q_cl]) <;> omega) | fail) ?_
    conv => whnf
    exact And.intro (by decide) (hQ _ _ _ _ _)
  | t + 1, N, v, mr, T, F, R, hv, ht, hN, h1, h2, h3 => by
    obtain ⟨N', rfl⟩ : ∃ N', N = N' + 40 := ⟨N - 40, by omega⟩
    have hv' : (v + Int32.ofInt (-1)).toInt = v.toInt - 1 := by rw [q_add32 (by have : (Int32.ofInt (-1)).toInt = -1 := rfl; omega) (by have : (Int32.ofInt (-1)).toInt = -1 := rfl; omega), show (Int32.ofInt (-1)).toInt = -1 from rfl]; omega
    refine mm_on (fun k pc => (Nat.beq k 59 && Nat.beq pc 119)) (fun _ => false) (fun F9 C hF' hC => ?_)
    conv => whnf
    refine br_f (by first | decide | ((try simp only [lg_cmp_ge, lg_cmp_le, lg_cmp_gt, lg_cmp_lt, lg_cmp_eq]) <;> (try simp only [show (Int8.ofInt 40).toInt32 = Int32.ofNat 40 from rfl, show (Int8.ofInt 25).toInt32 = Int32.ofNat 25 from rfl, show (Int8.ofInt 24).toInt32 = Int32.ofNat 24 from rfl, show (Int16.ofInt 480).toInt32 = Int32.ofNat 480 from rfl, show Int32.ofInt 1 = Int32.ofNat 1 from rfl, show Int32.ofInt 0 = Int32.ofNat 0 from rfl, show (0 : Int32) = Int32.ofNat 0 from rfl, show (1 : Int32) = Int32.ofNat 1 from rfl]) <;> (try simp only [← Int32.ofNat_add, ← Int32.ofNat_mul]) <;> (try simp (disch := omega) only [q_cl, q_on, Nat.mul_zero, Nat.zero_mul, Nat.zero_add, Nat.add_zero, Nat.mul_one]) <;> (try simp only [Int32.lt_iff_toInt_lt, Int32.le_iff_toInt_le, ← Int32.toInt_inj, Int64.lt_iff_toInt_lt, Int64.le_iff_toInt_le, ← Int64.toInt_inj, ← Int32.toNat_toInt, mm_k0, mm_k1, mm_K0, mm_K1, mm_K2, Int32.toInt_toInt64, List.length_cons, List.length_nil, vp_updL, upd, ↓reduceIte, not_true_eq_false, not_false_eq_true, mm_x0, mm_K3, hv, show (Int32.ofInt (-1)).toInt = -1 from rfl]) <;> (try simp (disch := omega) only [q_on, q_cl]) <;> omega) | fail) ?_
    conv => whnf
    refine br_f (by decide) ?_
    conv => whnf
    refine hC _ _ _ _ _ _ (k_58b (fun R' hR' => ?_))
    conv => whnf
    refine hC _ _ _ _ _ _ (k_57b (by omega) (by omega) (fun j hj => by rw [hR' j (by omega)]; exact h1 j hj) (by rw [hR' 24 (by omega)]; omega) (by
      obtain ⟨j, hj, hne⟩ := h3
      exact ⟨j, hj, by rw [hR' j (by omega)]; exact hne⟩) ?_ (fun T' F' g1 g2 g3 => ?_))
    · conv => whnf
      refine br_t (by decide) ?_
      conv => whnf
      exact hF' _ _ _ _ _ _ _ _ _ (mm_more (lp_59A hQ t N' _ _ (by omega) (by omega) (by omega)) (Nat.le_add_right N' _) rfl ⟨rfl, rfl, trivial⟩)
    · conv => whnf
      refine br_t (by decide) ?_
      conv => whnf
      refine hF' _ _ _ _ _ _ _ _ _ (mm_more (lp_59B hQ t N' _ _ _ _ _ (by omega) (by omega) (by omega) (fun j hj => ?_) ?_ ?_) (Nat.le_add_right N' _) rfl ⟨rfl, rfl, trivial⟩)
      · rw [g3 j (by omega)]
        exact (g1 j hj).2
      · rw [g3 24 (by omega)]
        rw [hR' 24 (by omega)] at g2
        omega
      · obtain ⟨j, hj, hne⟩ := h3
        refine ⟨j, hj, ?_⟩
        rw [g3 j (by omega)]
        intro h0
        exact hne (by rw [← hR' j (by omega)]; exact (g1 j hj).1.mp h0)
set_option maxRecDepth 100000 in
set_option maxHeartbeats 40000000 in
theorem k_59 {L : Nat} {xs : Nat → Int32} {d sl : Nat} {Q : mm_K} (hg : ∀ j, j < 24 → (mg j).toInt.natAbs ≤ 1000) (hd : (mg 24).toInt.natAbs ≤ 10000000) (hQ1 : (∀ j, j < 24 → (mg j).toInt = 0) → 0 ≤ (mg 24).toInt → ∀ (mr mfr : Int32) (mT mF mR : Nat → Int64), Q (.inl (some (.int 1))) (tb_H ln lf sr ss sc gv r1 r2 kp wd tm fa R O W ax mt ml mr mfr 1 mf mg mR mF mT m1 m2 m3 ou) sl) (hQ0 : ¬ ((∀ j, j < 24 → (mg j).toInt = 0) ∧ 0 ≤ (mg 24).toInt) → ∀ (mr mfr : Int32) (mT mF mR : Nat → Int64), Q (.inl (some (.int 0))) (tb_H ln lf sr ss sc gv r1 r2 kp wd tm fa R O W ax mt ml mr mfr 0 mf mg mR mF mT m1 m2 m3 ou) sl) : mm_call tb_P L xs (d + 5) 59 [.ref 82, .ref 173, .int 0] (tb_H ln lf sr ss sc gv r1 r2 kp wd tm fa R O W ax mt ml mr mfr mfa mf mg mR mF mT m1 m2 m3 ou) sl Q := by
  refine mm_run (fun k pc => (Nat.beq k 59 && Nat.beq pc 66)) (fun _ => false) (fun F C hF hC => ?_)
  refine Exists.intro 20000 ?_
  conv => whnf
  refine And.intro (by decide) ?_
  conv => whnf
  refine br_t (by decide) ?_
  conv => whnf
  refine hF _ _ _ _ _ _ _ _ _ (mm_more (lp_59 (fun T hT => ?_) 25 0 10000 _ (by omega) (by omega) (fun j hj => absurd hj (Nat.not_lt_zero j))) (by decide) rfl ⟨rfl, rfl, trivial⟩)
  clear hF hC
  have hn : ∀ j, j < 25 → (T j).toInt = -(mg j).toInt := fun j hj => by
    rw [hT j hj, q_neg64]
    by_cases h24 : j = 24
    · subst h24
      omega
    · have := hg j (by omega)
      omega
  have u24 : (vp_updL T 24 (T 24 - 1) 24).toInt = -(mg 24).toInt - 1 := by
    unfold vp_updL
    rw [if_pos rfl, q_sub64 (by have := hn 24 (by omega); have : (1 : Int64).toInt = 1 := rfl; omega) (by have := hn 24 (by omega); have : (1 : Int64).toInt = 1 := rfl; omega), show (1 : Int64).toInt = 1 from rfl, hn 24 (by omega)]
  have uj : ∀ j, j < 24 → (vp_updL T 24 (T 24 - 1) j).toInt = -(mg j).toInt := fun j hj => by
    unfold vp_updL
    rw [if_neg (by omega), hn j (by omega)]
  refine mm_on (fun k pc => (Nat.beq k 59 && Nat.beq pc 119)) (fun _ => false) (fun F C hF hC => ?_)
  conv => whnf
  refine And.intro (by unfold vp_in; decide) ?_
  conv => whnf
  refine And.intro (by unfold vp_in; decide) ?_
  conv => whnf
  refine hC _ _ _ _ _ _ (k_56 (mT := vp_updL T 24 (T 24 - 1)) (fun j hj => by rw [uj j hj]; have := hg j hj; omega) (by rw [u24]; omega) (fun ha hb => ?_) (fun ha hb => ?_) (fun he T' F' h1 h2 h3 => ?_))
  · rw [u24] at hb
    have hz : (∀ j, j < 24 → (mg j).toInt = 0) := fun j hj => by have := ha j hj; rw [uj j hj] at this; omega
    have hq := hQ1 hz (by omega)
    conv => whnf
    refine br_t (by decide) ?_
    conv => whnf
    refine hF _ _ _ _ _ _ _ _ _ (mm_more (n := 100) (ls := [(3, .int 23), (0, .ref 82)]) ?_ (by decide) rfl ⟨rfl, rfl, trivial⟩)
    clear hF hC
    refine mm_on (fun _ _ => false) (fun _ => false) (fun F C hF hC => ?_)
    conv => whnf
    refine br_f (by decide) ?_
    conv => whnf
    refine br_t (by decide) ?_
    conv => whnf
    exact And.intro (by decide) (hq _ _ _ _ _)
  · rw [u24] at hb
    have hq := hQ0 (fun h => by have := h.2; omega)
    conv => whnf
    refine br_t (by decide) ?_
    conv => whnf
    exact hF _ _ _ _ _ _ _ _ _ (mm_more (lp_59A hq 24 4000 23 _ rfl (by omega) (by omega)) (by decide) rfl ⟨rfl, rfl, trivial⟩)
  · have hq := hQ0 (fun h => by
      obtain ⟨j, hj, hne⟩ := he
      rw [uj j hj] at hne
      exact hne (by rw [h.1 j hj]; rfl))
    conv => whnf
    refine br_t (by decide) ?_
    conv => whnf
    refine hF _ _ _ _ _ _ _ _ _ (mm_more (lp_59B hq 24 4000 23 _ _ _ _ rfl (by omega) (by omega) (fun j hj => ?_) ?_ ?_) (by decide) rfl ⟨rfl, rfl, trivial⟩)
    · rw [h3 j (by omega)]
      exact (h1 j hj).2
    · rw [h3 24 (by omega)]
      rw [u24] at h2
      omega
    · obtain ⟨j, hj, hne⟩ := he
      refine ⟨j, hj, ?_⟩
      rw [h3 j (by omega)]
      exact fun h0 => hne ((h1 j hj).1.mp h0)
set_option maxRecDepth 100000 in
set_option maxHeartbeats 40000000 in
theorem lp_51 {L : Nat} {xs : Nat → Int32} {d sl : Nat} {Q : mm_K} {a b c e : Int32} (hK : ∀ mg : Nat → Int64, (∀ j, j < 25 → mg j = 0) → mm_w tb_P L xs (mm_call tb_P L xs d) 51 1000 23 [(0, .ref 144), (1, .int 0), (2, .int a), (3, .int b), (4, .int c), (5, .int e)] [] (tb_H ln lf sr ss sc gv r1 r2 kp wd tm fa R O W ax mt ml mr mfr mfa mf mg mR mF mT m1 m2 m3 ou) sl Q) : ∀ (t i N : Nat) (mg : Nat → Int64), i + t = 25 → 40 * t + 1040 ≤ N → (∀ j, j < i → mg j = 0) → mm_w tb_P L xs (mm_call tb_P L xs d) 51 N 3 [(6, .int (Int32.ofNat i)), (0, .ref 144), (1, .int 0), (2, .int a), (3, .int b), (4, .int c), (5, .int e)] [] (tb_H ln lf sr ss sc gv r1 r2 kp wd tm fa R O W ax mt ml mr mfr mfa mf mg mR mF mT m1 m2 m3 ou) sl Q
  | 0, i, N, f, hi, hN, hf => by
    obtain ⟨N', rfl⟩ : ∃ N', N = N' + 40 := ⟨N - 40, by omega⟩
    obtain rfl : i = 25 := by omega
    refine mm_on (fun k pc => (Nat.beq k 51 && Nat.beq pc 3) || (Nat.beq k 51 && Nat.beq pc 23)) (fun _ => false) (fun F C hF hC => ?_)
    conv => whnf
    refine br_t (by first | decide | ((try simp only [lg_cmp_ge, lg_cmp_le, lg_cmp_gt, lg_cmp_lt, lg_cmp_eq]) <;> (try simp only [show (Int8.ofInt 40).toInt32 = Int32.ofNat 40 from rfl, show (Int8.ofInt 25).toInt32 = Int32.ofNat 25 from rfl, show (Int8.ofInt 24).toInt32 = Int32.ofNat 24 from rfl, show (Int16.ofInt 480).toInt32 = Int32.ofNat 480 from rfl, show Int32.ofInt 1 = Int32.ofNat 1 from rfl, show Int32.ofInt 0 = Int32.ofNat 0 from rfl, show (0 : Int32) = Int32.ofNat 0 from rfl, show (1 : Int32) = Int32.ofNat 1 from rfl]) <;> (try simp only [← Int32.ofNat_add, ← Int32.ofNat_mul]) <;> (try simp (disch := omega) only [q_cl, q_on, Nat.mul_zero, Nat.zero_mul, Nat.zero_add, Nat.add_zero, Nat.mul_one]) <;> (try simp only [Int32.lt_iff_toInt_lt, Int32.le_iff_toInt_le, ← Int32.toInt_inj, Int64.lt_iff_toInt_lt, Int64.le_iff_toInt_le, ← Int64.toInt_inj, ← Int32.toNat_toInt, mm_k0, mm_k1, mm_K0, mm_K1, mm_K2, Int32.toInt_toInt64, List.length_cons, List.length_nil, vp_updL, upd, ↓reduceIte, not_true_eq_false, not_false_eq_true, mm_x0, mm_K3]) <;> (try simp (disch := omega) only [q_on, q_cl]) <;> omega) | fail) ?_
    conv => whnf
    exact hF _ _ _ _ _ _ _ _ _ (mm_more (hK f hf) (by omega) rfl ⟨rfl, rfl, rfl, rfl, rfl, rfl, trivial⟩)
  | t + 1, i, N, f, hi, hN, hf => by
    obtain ⟨N', rfl⟩ : ∃ N', N = N' + 40 := ⟨N - 40, by omega⟩
    refine mm_on (fun k pc => (Nat.beq k 51 && Nat.beq pc 3) || (Nat.beq k 51 && Nat.beq pc 23)) (fun _ => false) (fun F C hF hC => ?_)
    conv => whnf
    refine br_f (by first | decide | ((try simp only [lg_cmp_ge, lg_cmp_le, lg_cmp_gt, lg_cmp_lt, lg_cmp_eq]) <;> (try simp only [show (Int8.ofInt 40).toInt32 = Int32.ofNat 40 from rfl, show (Int8.ofInt 25).toInt32 = Int32.ofNat 25 from rfl, show (Int8.ofInt 24).toInt32 = Int32.ofNat 24 from rfl, show (Int16.ofInt 480).toInt32 = Int32.ofNat 480 from rfl, show Int32.ofInt 1 = Int32.ofNat 1 from rfl, show Int32.ofInt 0 = Int32.ofNat 0 from rfl, show (0 : Int32) = Int32.ofNat 0 from rfl, show (1 : Int32) = Int32.ofNat 1 from rfl]) <;> (try simp only [← Int32.ofNat_add, ← Int32.ofNat_mul]) <;> (try simp (disch := omega) only [q_cl, q_on, Nat.mul_zero, Nat.zero_mul, Nat.zero_add, Nat.add_zero, Nat.mul_one]) <;> (try simp only [Int32.lt_iff_toInt_lt, Int32.le_iff_toInt_le, ← Int32.toInt_inj, Int64.lt_iff_toInt_lt, Int64.le_iff_toInt_le, ← Int64.toInt_inj, ← Int32.toNat_toInt, mm_k0, mm_k1, mm_K0, mm_K1, mm_K2, Int32.toInt_toInt64, List.length_cons, List.length_nil, vp_updL, upd, ↓reduceIte, not_true_eq_false, not_false_eq_true, mm_x0, mm_K3]) <;> (try simp (disch := omega) only [q_on, q_cl]) <;> omega) | fail) ?_
    conv => whnf
    refine And.intro (by first | decide | (unfold vp_in; decide) | ((try unfold vp_in) <;> (try simp only [lg_cmp_ge, lg_cmp_le, lg_cmp_gt, lg_cmp_lt, lg_cmp_eq]) <;> (try simp only [show (Int8.ofInt 40).toInt32 = Int32.ofNat 40 from rfl, show (Int8.ofInt 25).toInt32 = Int32.ofNat 25 from rfl, show (Int8.ofInt 24).toInt32 = Int32.ofNat 24 from rfl, show (Int16.ofInt 480).toInt32 = Int32.ofNat 480 from rfl, show Int32.ofInt 1 = Int32.ofNat 1 from rfl, show Int32.ofInt 0 = Int32.ofNat 0 from rfl, show (0 : Int32) = Int32.ofNat 0 from rfl, show (1 : Int32) = Int32.ofNat 1 from rfl]) <;> (try simp only [← Int32.ofNat_add, ← Int32.ofNat_mul]) <;> (try simp (disch := omega) only [q_cl, q_on, Nat.mul_zero, Nat.zero_mul, Nat.zero_add, Nat.add_zero, Nat.mul_one]) <;> (try simp only [Int32.lt_iff_toInt_lt, Int32.le_iff_toInt_le, ← Int32.toInt_inj, Int64.lt_iff_toInt_lt, Int64.le_iff_toInt_le, ← Int64.toInt_inj, ← Int32.toNat_toInt, mm_k0, mm_k1, mm_K0, mm_K1, mm_K2, Int32.toInt_toInt64, List.length_cons, List.length_nil, vp_updL, upd, ↓reduceIte, not_true_eq_false, not_false_eq_true, mm_x0, mm_K3]) <;> (try simp (disch := omega) only [q_on, q_cl]) <;> omega) | fail) ?_
    conv => whnf
    rw [q_inc]
    exact hF _ _ _ _ _ _ _ _ _ (mm_more (lp_51 hK t (i + 1) N' _ (by omega) (by omega) (q_Z_step hf (by (try simp only [show (Int8.ofInt 40).toInt32 = Int32.ofNat 40 from rfl, show (Int8.ofInt 25).toInt32 = Int32.ofNat 25 from rfl, show (Int8.ofInt 24).toInt32 = Int32.ofNat 24 from rfl, show (Int16.ofInt 480).toInt32 = Int32.ofNat 480 from rfl, show Int32.ofInt 1 = Int32.ofNat 1 from rfl, show Int32.ofInt 0 = Int32.ofNat 0 from rfl, show (0 : Int32) = Int32.ofNat 0 from rfl, show (1 : Int32) = Int32.ofNat 1 from rfl]) <;> (try simp only [← Int32.ofNat_add, ← Int32.ofNat_mul]) <;> (try simp (disch := omega) only [q_cl, Nat.mul_zero, Nat.zero_mul, Nat.zero_add, Nat.add_zero, Nat.mul_one]) <;> first | rfl | omega | fail))) (Nat.le_add_right N' _) rfl ⟨rfl, rfl, rfl, rfl, rfl, rfl, rfl, trivial⟩)
set_option maxRecDepth 100000 in
set_option maxHeartbeats 40000000 in
theorem k_51 {L : Nat} {xs : Nat → Int32} {d sl : Nat} {Q : mm_K} {a b c e : Int32} (hQ : ∀ mg : Nat → Int64, mg 0 = a.toInt64 → mg 1 = b.toInt64 → mg 2 = c.toInt64 → mg 24 = e.toInt64 → (∀ j, 3 ≤ j → j < 24 → mg j = 0) → Q (.inl none) (tb_H ln lf sr ss sc gv r1 r2 kp wd tm fa R O W ax mt ml mr mfr mfa mf mg mR mF mT m1 m2 m3 ou) sl) : mm_call tb_P L xs (d + 1) 51 [.ref 144, .int 0, .int a, .int b, .int c, .int e] (tb_H ln lf sr ss sc gv r1 r2 kp wd tm fa R O W ax mt ml mr mfr mfa mf mg mR mF mT m1 m2 m3 ou) sl Q := by
  refine mm_run (fun k pc => (Nat.beq k 51 && Nat.beq pc 3)) (fun _ => false) (fun F C hF hC => ?_)
  refine Exists.intro 5000 ?_
  conv => whnf
  refine hF _ _ _ _ _ _ _ _ _ (mm_more (lp_51 (fun f hf => ?_) 25 0 3000 _ (by omega) (by omega) (fun j hj => absurd hj (Nat.not_lt_zero j))) (by decide) rfl ⟨rfl, rfl, rfl, rfl, rfl, rfl, rfl, trivial⟩)
  clear hF hC
  have h := hQ (vp_updL (vp_updL (vp_updL (vp_updL f 0 a.toInt64) 1 b.toInt64) 2 c.toInt64) 24 e.toInt64) rfl rfl rfl rfl (fun j h1 h2 => by
    unfold vp_updL
    rw [if_neg (by omega), if_neg (by omega), if_neg (by omega), if_neg (by omega)]
    exact hf j (by omega))
  refine mm_on (fun _ _ => false) (fun _ => false) (fun F C hF hC => ?_)
  conv => whnf
  repeat' (first
    | (refine And.intro (by unfold vp_in; decide) ?_; conv => whnf)
    | exact h)
end

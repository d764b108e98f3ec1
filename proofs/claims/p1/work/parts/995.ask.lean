/-! takeAway, proves, becomeDesk; ask. By wip/mkask.py. -/
section
variable {ln : Int32} {lf : Nat → Int32} {sr : Nat → Int32} {ss : Nat → Int32} {sc : Nat → Int32} {gv : Int32} {r1 : Nat} {r2 : Nat} {kp : Int32} {wd : Int32} {tm : Int32} {fa : Int32} {R : Nat → Int64} {O : Nat → Int64} {W : Nat → Int64} {ax : Nat → Int64} {mt : Int32} {ml : Int32} {mr : Int32} {mfr : Int32} {mfa : Int32} {mf : Nat → Int32} {mg : Nat → Int64} {mR : Nat → Int64} {mF : Nat → Int64} {mT : Nat → Int64} {m1 : Nat → Int32} {m2 : Nat → Int32} {m3 : Nat → Int32} {ou : Nat → Int64}
set_option maxRecDepth 100000 in
set_option maxHeartbeats 40000000 in
theorem k_100a_58 {L : Nat} {xs : Nat → Int32} {d sl : Nat} {Q : mm_K} {v : Int32} (hQ : Q (.inl none) (tb_H ln lf sr ss sc gv 59 58 0 v 0 0 R O W ax mt ml mr mfr mfa mf mg mR mF mT m1 m2 m3 ou) sl) : mm_call tb_P L xs (d + 1) 100 [.ref 57, .int v] (tb_H ln lf sr ss sc gv 58 59 0 wd 0 0 R O W ax mt ml mr mfr mfa mf mg mR mF mT m1 m2 m3 ou) sl Q := by
  refine mm_run (fun _ _ => false) (fun _ => false) (fun F C hF hC => ?_)
  refine Exists.intro 200 ?_
  conv => whnf
  refine br_t (by decide) ?_
  conv => whnf
  exact hQ
set_option maxRecDepth 100000 in
set_option maxHeartbeats 40000000 in
theorem k_100b_58 {L : Nat} {xs : Nat → Int32} {d sl : Nat} {Q : mm_K} {v : Nat} (hv : 1 ≤ v) (hv2 : v ≤ 24) (hR : ∀ j, 1 ≤ j → j ≤ v → (R j).toInt.natAbs ≤ 1000) (hB : (R 0).toInt.natAbs ≤ 100000000) (hE : ∃ j, 1 ≤ j ∧ j ≤ v ∧ (R j).toInt ≠ 0) (hQ : (R v).toInt ≠ 0 → Q (.inl none) (tb_H ln lf sr ss sc gv 59 58 0 (Int32.ofNat v) 0 0 R O W ax mt ml mr mfr mfa mf mg mR mF mT m1 m2 m3 ou) sl) (hQ2 : ∀ W' R' : Nat → Int64, (∀ j, 1 ≤ j → j < v → (R' j).toInt.natAbs ≤ 1000) → (R' 0).toInt.natAbs ≤ (R 0).toInt.natAbs + 1 → (∃ j, 1 ≤ j ∧ j < v ∧ (R' j).toInt ≠ 0) → Q (.inl none) (tb_H ln lf sr ss sc gv 59 58 1 (Int32.ofNat v) 0 0 R R' W' ax mt ml mr mfr mfa mf mg mR mF mT m1 m2 m3 ou) sl) : mm_call tb_P L xs (d + 4) 100 [.ref 57, .int (Int32.ofNat v)] (tb_H ln lf sr ss sc gv 58 59 1 wd 0 0 R O W ax mt ml mr mfr mfa mf mg mR mF mT m1 m2 m3 ou) sl Q := by
  have hcw : (Int32.ofNat v).toNatClampNeg = v := q_cl (by omega)
  have hcn : ¬ Int32.ofNat v < 0 := by
    rw [Int32.lt_iff_toInt_lt, q_on (by omega)]
    show ¬ (v : Int) < 0
    omega
  refine mm_run (fun _ _ => false) (fun _ => false) (fun F C hF hC => ?_)
  refine Exists.intro 500 ?_
  conv => whnf
  refine br_f (by decide) ?_
  conv => whnf
  refine br_f (by decide) ?_
  conv => whnf
  refine And.intro (by first | decide | (unfold vp_in; decide) | ((try unfold vp_in) <;> (try simp only [lg_cmp_ge, lg_cmp_le, lg_cmp_gt, lg_cmp_lt, lg_cmp_eq]) <;> (try simp only [show (Int8.ofInt 40).toInt32 = Int32.ofNat 40 from rfl, show (Int8.ofInt 25).toInt32 = Int32.ofNat 25 from rfl, show (Int8.ofInt 24).toInt32 = Int32.ofNat 24 from rfl, show (Int16.ofInt 480).toInt32 = Int32.ofNat 480 from rfl, show Int32.ofInt 1 = Int32.ofNat 1 from rfl, show Int32.ofInt 0 = Int32.ofNat 0 from rfl, show (0 : Int32) = Int32.ofNat 0 from rfl, show (1 : Int32) = Int32.ofNat 1 from rfl]) <;> (try simp only [← Int32.ofNat_add, ← Int32.ofNat_mul]) <;> (try simp (disch := omega) only [q_cl, q_on, Nat.mul_zero, Nat.zero_mul, Nat.zero_add, Nat.add_zero, Nat.mul_one]) <;> (try simp only [Int32.lt_iff_toInt_lt, Int32.le_iff_toInt_le, ← Int32.toInt_inj, Int64.lt_iff_toInt_lt, Int64.le_iff_toInt_le, ← Int64.toInt_inj, ← Int32.toNat_toInt, mm_k0, mm_k1, mm_K0, mm_K1, mm_K2, Int32.toInt_toInt64, List.length_cons, List.length_nil, vp_updL, upd, ↓reduceIte, not_true_eq_false, not_false_eq_true, mm_x0, mm_K3]) <;> (try simp (disch := omega) only [q_on, q_cl]) <;> omega) | fail) ?_
  conv => whnf
  by_cases hp : (R v).toInt = 0
  · refine br_f (by first | decide | ((try simp only [lg_cmp_ge, lg_cmp_le, lg_cmp_gt, lg_cmp_lt, lg_cmp_eq]) <;> (try simp only [show (Int8.ofInt 40).toInt32 = Int32.ofNat 40 from rfl, show (Int8.ofInt 25).toInt32 = Int32.ofNat 25 from rfl, show (Int8.ofInt 24).toInt32 = Int32.ofNat 24 from rfl, show (Int16.ofInt 480).toInt32 = Int32.ofNat 480 from rfl, show Int32.ofInt 1 = Int32.ofNat 1 from rfl, show Int32.ofInt 0 = Int32.ofNat 0 from rfl, show (0 : Int32) = Int32.ofNat 0 from rfl, show (1 : Int32) = Int32.ofNat 1 from rfl]) <;> (try simp only [← Int32.ofNat_add, ← Int32.ofNat_mul]) <;> (try simp (disch := omega) only [q_cl, q_on, Nat.mul_zero, Nat.zero_mul, Nat.zero_add, Nat.add_zero, Nat.mul_one]) <;> (try simp only [Int32.lt_iff_toInt_lt, Int32.le_iff_toInt_le, ← Int32.toInt_inj, Int64.lt_iff_toInt_lt, Int64.le_iff_toInt_le, ← Int64.toInt_inj, ← Int32.toNat_toInt, mm_k0, mm_k1, mm_K0, mm_K1, mm_K2, Int32.toInt_toInt64, List.length_cons, List.length_nil, vp_updL, upd, ↓reduceIte, not_true_eq_false, not_false_eq_true, mm_x0, mm_K3]) <;> (try simp (disch := omega) only [q_on, q_cl]) <;> omega) | fail) ?_
    conv => whnf
    refine And.intro ⟨by decide, by decide, hcn, ?_, ?_⟩ ?_
    · rw [hcw]
      show 0 + v ≤ 2000
      omega
    · rw [hcw]
      show 0 + v ≤ 25
      omega
    conv => whnf
    have hc : ∀ j, j < v → va_cpy R W 0 0 (Int32.ofNat v).toNatClampNeg j = R j := fun j hj => by
      rw [hcw]
      unfold va_cpy
      rw [if_pos ⟨Nat.zero_le _, by omega⟩]
      congr 1
      omega
    have hE2 : ∃ j, 1 ≤ j ∧ j < v ∧ (R j).toInt ≠ 0 := by
      obtain ⟨j, h1, h2, h3⟩ := hE
      by_cases hj : j = v
      · subst hj
        exact absurd hp h3
      · exact ⟨j, h1, by omega, h3⟩
    refine hC _ _ _ _ _ _ (k_101_59 (W := va_cpy R W 0 0 (Int32.ofNat v).toNatClampNeg) (w := v) hv (by omega) (fun j h1 h2 => by rw [hc j h2]; exact hR j h1 (by omega)) (by rw [hc 0 (by omega)]; exact hB) (fun ha => ?_) (fun ha => ?_) (fun _ W' R' g1 g2 g3 => ?_))
    · obtain ⟨j, h1, h2, h3⟩ := hE2
      exact absurd (by rw [← hc j h2]; exact ha j h1 h2) h3
    · obtain ⟨j, h1, h2, h3⟩ := hE2
      exact absurd (by rw [← hc j h2]; exact ha j h1 h2) h3
    · have hq := hQ2 W' R' (fun j h1 h2 => by rw [g3 j h2]; exact (g1 j h1 h2).2) (by rw [g3 0 (by omega)]; rw [hc 0 (by omega)] at g2; exact g2) (by
        obtain ⟨j, h1, h2, h3⟩ := hE2
        refine ⟨j, h1, h2, ?_⟩
        rw [g3 j h2]
        intro h0
        have := (g1 j h1 h2).1.mp h0
        rw [hc j h2] at this
        exact h3 this)
      conv => whnf
      repeat' (first
        | exact hq
        | (refine br_t (by first | decide | ((try simp only [lg_cmp_ge, lg_cmp_le, lg_cmp_gt, lg_cmp_lt, lg_cmp_eq]) <;> (try simp only [show (Int8.ofInt 40).toInt32 = Int32.ofNat 40 from rfl, show (Int8.ofInt 25).toInt32 = Int32.ofNat 25 from rfl, show (Int8.ofInt 24).toInt32 = Int32.ofNat 24 from rfl, show (Int16.ofInt 480).toInt32 = Int32.ofNat 480 from rfl, show Int32.ofInt 1 = Int32.ofNat 1 from rfl, show Int32.ofInt 0 = Int32.ofNat 0 from rfl, show (0 : Int32) = Int32.ofNat 0 from rfl, show (1 : Int32) = Int32.ofNat 1 from rfl]) <;> (try simp only [← Int32.ofNat_add, ← Int32.ofNat_mul]) <;> (try simp (disch := omega) only [q_cl, q_on, Nat.mul_zero, Nat.zero_mul, Nat.zero_add, Nat.add_zero, Nat.mul_one]) <;> (try simp only [Int32.lt_iff_toInt_lt, Int32.le_iff_toInt_le, ← Int32.toInt_inj, Int64.lt_iff_toInt_lt, Int64.le_iff_toInt_le, ← Int64.toInt_inj, ← Int32.toNat_toInt, mm_k0, mm_k1, mm_K0, mm_K1, mm_K2, Int32.toInt_toInt64, List.length_cons, List.length_nil, vp_updL, upd, ↓reduceIte, not_true_eq_false, not_false_eq_true, mm_x0, mm_K3]) <;> (try simp (disch := omega) only [q_on, q_cl]) <;> omega) | fail) ?_; conv => whnf)
        | (refine br_f (by first | decide | ((try simp only [lg_cmp_ge, lg_cmp_le, lg_cmp_gt, lg_cmp_lt, lg_cmp_eq]) <;> (try simp only [show (Int8.ofInt 40).toInt32 = Int32.ofNat 40 from rfl, show (Int8.ofInt 25).toInt32 = Int32.ofNat 25 from rfl, show (Int8.ofInt 24).toInt32 = Int32.ofNat 24 from rfl, show (Int16.ofInt 480).toInt32 = Int32.ofNat 480 from rfl, show Int32.ofInt 1 = Int32.ofNat 1 from rfl, show Int32.ofInt 0 = Int32.ofNat 0 from rfl, show (0 : Int32) = Int32.ofNat 0 from rfl, show (1 : Int32) = Int32.ofNat 1 from rfl]) <;> (try simp only [← Int32.ofNat_add, ← Int32.ofNat_mul]) <;> (try simp (disch := omega) only [q_cl, q_on, Nat.mul_zero, Nat.zero_mul, Nat.zero_add, Nat.add_zero, Nat.mul_one]) <;> (try simp only [Int32.lt_iff_toInt_lt, Int32.le_iff_toInt_le, ← Int32.toInt_inj, Int64.lt_iff_toInt_lt, Int64.le_iff_toInt_le, ← Int64.toInt_inj, ← Int32.toNat_toInt, mm_k0, mm_k1, mm_K0, mm_K1, mm_K2, Int32.toInt_toInt64, List.length_cons, List.length_nil, vp_updL, upd, ↓reduceIte, not_true_eq_false, not_false_eq_true, mm_x0, mm_K3]) <;> (try simp (disch := omega) only [q_on, q_cl]) <;> omega) | fail) ?_; conv => whnf))
  · have hq := hQ hp
    refine br_t (by first | decide | ((try simp only [lg_cmp_ge, lg_cmp_le, lg_cmp_gt, lg_cmp_lt, lg_cmp_eq]) <;> (try simp only [show (Int8.ofInt 40).toInt32 = Int32.ofNat 40 from rfl, show (Int8.ofInt 25).toInt32 = Int32.ofNat 25 from rfl, show (Int8.ofInt 24).toInt32 = Int32.ofNat 24 from rfl, show (Int16.ofInt 480).toInt32 = Int32.ofNat 480 from rfl, show Int32.ofInt 1 = Int32.ofNat 1 from rfl, show Int32.ofInt 0 = Int32.ofNat 0 from rfl, show (0 : Int32) = Int32.ofNat 0 from rfl, show (1 : Int32) = Int32.ofNat 1 from rfl]) <;> (try simp only [← Int32.ofNat_add, ← Int32.ofNat_mul]) <;> (try simp (disch := omega) only [q_cl, q_on, Nat.mul_zero, Nat.zero_mul, Nat.zero_add, Nat.add_zero, Nat.mul_one]) <;> (try simp only [Int32.lt_iff_toInt_lt, Int32.le_iff_toInt_le, ← Int32.toInt_inj, Int64.lt_iff_toInt_lt, Int64.le_iff_toInt_le, ← Int64.toInt_inj, ← Int32.toNat_toInt, mm_k0, mm_k1, mm_K0, mm_K1, mm_K2, Int32.toInt_toInt64, List.length_cons, List.length_nil, vp_updL, upd, ↓reduceIte, not_true_eq_false, not_false_eq_true, mm_x0, mm_K3]) <;> (try simp (disch := omega) only [q_on, q_cl]) <;> omega) | fail) ?_
    conv => whnf
    by_cases hp2 : 0 < (R v).toInt
    · have hpn : (-R v).toInt = -(R v).toInt := q_neg64 (by have := hR v hv (by omega); omega)
      repeat' (first
        | exact hq
        | (refine br_t (by first | decide | ((try simp only [lg_cmp_ge, lg_cmp_le, lg_cmp_gt, lg_cmp_lt, lg_cmp_eq]) <;> (try simp only [show (Int8.ofInt 40).toInt32 = Int32.ofNat 40 from rfl, show (Int8.ofInt 25).toInt32 = Int32.ofNat 25 from rfl, show (Int8.ofInt 24).toInt32 = Int32.ofNat 24 from rfl, show (Int16.ofInt 480).toInt32 = Int32.ofNat 480 from rfl, show Int32.ofInt 1 = Int32.ofNat 1 from rfl, show Int32.ofInt 0 = Int32.ofNat 0 from rfl, show (0 : Int32) = Int32.ofNat 0 from rfl, show (1 : Int32) = Int32.ofNat 1 from rfl]) <;> (try simp only [← Int32.ofNat_add, ← Int32.ofNat_mul]) <;> (try simp (disch := omega) only [q_cl, q_on, Nat.mul_zero, Nat.zero_mul, Nat.zero_add, Nat.add_zero, Nat.mul_one]) <;> (try simp only [Int32.lt_iff_toInt_lt, Int32.le_iff_toInt_le, ← Int32.toInt_inj, Int64.lt_iff_toInt_lt, Int64.le_iff_toInt_le, ← Int64.toInt_inj, ← Int32.toNat_toInt, mm_k0, mm_k1, mm_K0, mm_K1, mm_K2, Int32.toInt_toInt64, List.length_cons, List.length_nil, vp_updL, upd, ↓reduceIte, not_true_eq_false, not_false_eq_true, mm_x0, mm_K3, hpn]) <;> (try simp (disch := omega) only [q_on, q_cl]) <;> omega) | fail) ?_; conv => whnf)
        | (refine br_f (by first | decide | ((try simp only [lg_cmp_ge, lg_cmp_le, lg_cmp_gt, lg_cmp_lt, lg_cmp_eq]) <;> (try simp only [show (Int8.ofInt 40).toInt32 = Int32.ofNat 40 from rfl, show (Int8.ofInt 25).toInt32 = Int32.ofNat 25 from rfl, show (Int8.ofInt 24).toInt32 = Int32.ofNat 24 from rfl, show (Int16.ofInt 480).toInt32 = Int32.ofNat 480 from rfl, show Int32.ofInt 1 = Int32.ofNat 1 from rfl, show Int32.ofInt 0 = Int32.ofNat 0 from rfl, show (0 : Int32) = Int32.ofNat 0 from rfl, show (1 : Int32) = Int32.ofNat 1 from rfl]) <;> (try simp only [← Int32.ofNat_add, ← Int32.ofNat_mul]) <;> (try simp (disch := omega) only [q_cl, q_on, Nat.mul_zero, Nat.zero_mul, Nat.zero_add, Nat.add_zero, Nat.mul_one]) <;> (try simp only [Int32.lt_iff_toInt_lt, Int32.le_iff_toInt_le, ← Int32.toInt_inj, Int64.lt_iff_toInt_lt, Int64.le_iff_toInt_le, ← Int64.toInt_inj, ← Int32.toNat_toInt, mm_k0, mm_k1, mm_K0, mm_K1, mm_K2, Int32.toInt_toInt64, List.length_cons, List.length_nil, vp_updL, upd, ↓reduceIte, not_true_eq_false, not_false_eq_true, mm_x0, mm_K3, hpn]) <;> (try simp (disch := omega) only [q_on, q_cl]) <;> omega) | fail) ?_; conv => whnf)
        | (refine And.intro (by first | decide | (unfold vp_in; decide) | ((try unfold vp_in) <;> (try simp only [lg_cmp_ge, lg_cmp_le, lg_cmp_gt, lg_cmp_lt, lg_cmp_eq]) <;> (try simp only [show (Int8.ofInt 40).toInt32 = Int32.ofNat 40 from rfl, show (Int8.ofInt 25).toInt32 = Int32.ofNat 25 from rfl, show (Int8.ofInt 24).toInt32 = Int32.ofNat 24 from rfl, show (Int16.ofInt 480).toInt32 = Int32.ofNat 480 from rfl, show Int32.ofInt 1 = Int32.ofNat 1 from rfl, show Int32.ofInt 0 = Int32.ofNat 0 from rfl, show (0 : Int32) = Int32.ofNat 0 from rfl, show (1 : Int32) = Int32.ofNat 1 from rfl]) <;> (try simp only [← Int32.ofNat_add, ← Int32.ofNat_mul]) <;> (try simp (disch := omega) only [q_cl, q_on, Nat.mul_zero, Nat.zero_mul, Nat.zero_add, Nat.add_zero, Nat.mul_one]) <;> (try simp only [Int32.lt_iff_toInt_lt, Int32.le_iff_toInt_le, ← Int32.toInt_inj, Int64.lt_iff_toInt_lt, Int64.le_iff_toInt_le, ← Int64.toInt_inj, ← Int32.toNat_toInt, mm_k0, mm_k1, mm_K0, mm_K1, mm_K2, Int32.toInt_toInt64, List.length_cons, List.length_nil, vp_updL, upd, ↓reduceIte, not_true_eq_false, not_false_eq_true, mm_x0, mm_K3]) <;> (try simp (disch := omega) only [q_on, q_cl]) <;> omega) | fail) ?_; conv => whnf))
    · repeat' (first
        | exact hq
        | (refine br_t (by first | decide | ((try simp only [lg_cmp_ge, lg_cmp_le, lg_cmp_gt, lg_cmp_lt, lg_cmp_eq]) <;> (try simp only [show (Int8.ofInt 40).toInt32 = Int32.ofNat 40 from rfl, show (Int8.ofInt 25).toInt32 = Int32.ofNat 25 from rfl, show (Int8.ofInt 24).toInt32 = Int32.ofNat 24 from rfl, show (Int16.ofInt 480).toInt32 = Int32.ofNat 480 from rfl, show Int32.ofInt 1 = Int32.ofNat 1 from rfl, show Int32.ofInt 0 = Int32.ofNat 0 from rfl, show (0 : Int32) = Int32.ofNat 0 from rfl, show (1 : Int32) = Int32.ofNat 1 from rfl]) <;> (try simp only [← Int32.ofNat_add, ← Int32.ofNat_mul]) <;> (try simp (disch := omega) only [q_cl, q_on, Nat.mul_zero, Nat.zero_mul, Nat.zero_add, Nat.add_zero, Nat.mul_one]) <;> (try simp only [Int32.lt_iff_toInt_lt, Int32.le_iff_toInt_le, ← Int32.toInt_inj, Int64.lt_iff_toInt_lt, Int64.le_iff_toInt_le, ← Int64.toInt_inj, ← Int32.toNat_toInt, mm_k0, mm_k1, mm_K0, mm_K1, mm_K2, Int32.toInt_toInt64, List.length_cons, List.length_nil, vp_updL, upd, ↓reduceIte, not_true_eq_false, not_false_eq_true, mm_x0, mm_K3]) <;> (try simp (disch := omega) only [q_on, q_cl]) <;> omega) | fail) ?_; conv => whnf)
        | (refine br_f (by first | decide | ((try simp only [lg_cmp_ge, lg_cmp_le, lg_cmp_gt, lg_cmp_lt, lg_cmp_eq]) <;> (try simp only [show (Int8.ofInt 40).toInt32 = Int32.ofNat 40 from rfl, show (Int8.ofInt 25).toInt32 = Int32.ofNat 25 from rfl, show (Int8.ofInt 24).toInt32 = Int32.ofNat 24 from rfl, show (Int16.ofInt 480).toInt32 = Int32.ofNat 480 from rfl, show Int32.ofInt 1 = Int32.ofNat 1 from rfl, show Int32.ofInt 0 = Int32.ofNat 0 from rfl, show (0 : Int32) = Int32.ofNat 0 from rfl, show (1 : Int32) = Int32.ofNat 1 from rfl]) <;> (try simp only [← Int32.ofNat_add, ← Int32.ofNat_mul]) <;> (try simp (disch := omega) only [q_cl, q_on, Nat.mul_zero, Nat.zero_mul, Nat.zero_add, Nat.add_zero, Nat.mul_one]) <;> (try simp only [Int32.lt_iff_toInt_lt, Int32.le_iff_toInt_le, ← Int32.toInt_inj, Int64.lt_iff_toInt_lt, Int64.le_iff_toInt_le, ← Int64.toInt_inj, ← Int32.toNat_toInt, mm_k0, mm_k1, mm_K0, mm_K1, mm_K2, Int32.toInt_toInt64, List.length_cons, List.length_nil, vp_updL, upd, ↓reduceIte, not_true_eq_false, not_false_eq_true, mm_x0, mm_K3]) <;> (try simp (disch := omega) only [q_on, q_cl]) <;> omega) | fail) ?_; conv => whnf))
set_option maxRecDepth 100000 in
set_option maxHeartbeats 40000000 in
theorem k_100a_59 {L : Nat} {xs : Nat → Int32} {d sl : Nat} {Q : mm_K} {v : Int32} (hQ : Q (.inl none) (tb_H ln lf sr ss sc gv 58 59 0 v 0 0 R O W ax mt ml mr mfr mfa mf mg mR mF mT m1 m2 m3 ou) sl) : mm_call tb_P L xs (d + 1) 100 [.ref 57, .int v] (tb_H ln lf sr ss sc gv 59 58 0 wd 0 0 R O W ax mt ml mr mfr mfa mf mg mR mF mT m1 m2 m3 ou) sl Q := by
  refine mm_run (fun _ _ => false) (fun _ => false) (fun F C hF hC => ?_)
  refine Exists.intro 200 ?_
  conv => whnf
  refine br_t (by decide) ?_
  conv => whnf
  exact hQ
set_option maxRecDepth 100000 in
set_option maxHeartbeats 40000000 in
theorem k_100b_59 {L : Nat} {xs : Nat → Int32} {d sl : Nat} {Q : mm_K} {v : Nat} (hv : 1 ≤ v) (hv2 : v ≤ 24) (hR : ∀ j, 1 ≤ j → j ≤ v → (O j).toInt.natAbs ≤ 1000) (hB : (O 0).toInt.natAbs ≤ 100000000) (hE : ∃ j, 1 ≤ j ∧ j ≤ v ∧ (O j).toInt ≠ 0) (hQ : (O v).toInt ≠ 0 → Q (.inl none) (tb_H ln lf sr ss sc gv 58 59 0 (Int32.ofNat v) 0 0 R O W ax mt ml mr mfr mfa mf mg mR mF mT m1 m2 m3 ou) sl) (hQ2 : ∀ W' R' : Nat → Int64, (∀ j, 1 ≤ j → j < v → (R' j).toInt.natAbs ≤ 1000) → (R' 0).toInt.natAbs ≤ (O 0).toInt.natAbs + 1 → (∃ j, 1 ≤ j ∧ j < v ∧ (R' j).toInt ≠ 0) → Q (.inl none) (tb_H ln lf sr ss sc gv 58 59 1 (Int32.ofNat v) 0 0 R' O W' ax mt ml mr mfr mfa mf mg mR mF mT m1 m2 m3 ou) sl) : mm_call tb_P L xs (d + 4) 100 [.ref 57, .int (Int32.ofNat v)] (tb_H ln lf sr ss sc gv 59 58 1 wd 0 0 R O W ax mt ml mr mfr mfa mf mg mR mF mT m1 m2 m3 ou) sl Q := by
  have hcw : (Int32.ofNat v).toNatClampNeg = v := q_cl (by omega)
  have hcn : ¬ Int32.ofNat v < 0 := by
    rw [Int32.lt_iff_toInt_lt, q_on (by omega)]
    show ¬ (v : Int) < 0
    omega
  refine mm_run (fun _ _ => false) (fun _ => false) (fun F C hF hC => ?_)
  refine Exists.intro 500 ?_
  conv => whnf
  refine br_f (by decide) ?_
  conv => whnf
  refine br_f (by decide) ?_
  conv => whnf
  refine And.intro (by first | decide | (unfold vp_in; decide) | ((try unfold vp_in) <;> (try simp only [lg_cmp_ge, lg_cmp_le, lg_cmp_gt, lg_cmp_lt, lg_cmp_eq]) <;> (try simp only [show (Int8.ofInt 40).toInt32 = Int32.ofNat 40 from rfl, show (Int8.ofInt 25).toInt32 = Int32.ofNat 25 from rfl, show (Int8.ofInt 24).toInt32 = Int32.ofNat 24 from rfl, show (Int16.ofInt 480).toInt32 = Int32.ofNat 480 from rfl, show Int32.ofInt 1 = Int32.ofNat 1 from rfl, show Int32.ofInt 0 = Int32.ofNat 0 from rfl, show (0 : Int32) = Int32.ofNat 0 from rfl, show (1 : Int32) = Int32.ofNat 1 from rfl]) <;> (try simp only [← Int32.ofNat_add, ← Int32.ofNat_mul]) <;> (try simp (disch := omega) only [q_cl, q_on, Nat.mul_zero, Nat.zero_mul, Nat.zero_add, Nat.add_zero, Nat.mul_one]) <;> (try simp only [Int32.lt_iff_toInt_lt, Int32.le_iff_toInt_le, ← Int32.toInt_inj, Int64.lt_iff_toInt_lt, Int64.le_iff_toInt_le, ← Int64.toInt_inj, ← Int32.toNat_toInt, mm_k0, mm_k1, mm_K0, mm_K1, mm_K2, Int32.toInt_toInt64, List.length_cons, List.length_nil, vp_updL, upd, ↓reduceIte, not_true_eq_false, not_false_eq_true, mm_x0, mm_K3]) <;> (try simp (disch := omega) only [q_on, q_cl]) <;> omega) | fail) ?_
  conv => whnf
  by_cases hp : (O v).toInt = 0
  · refine br_f (by first | decide | ((try simp only [lg_cmp_ge, lg_cmp_le, lg_cmp_gt, lg_cmp_lt, lg_cmp_eq]) <;> (try simp only [show (Int8.ofInt 40).toInt32 = Int32.ofNat 40 from rfl, show (Int8.ofInt 25).toInt32 = Int32.ofNat 25 from rfl, show (Int8.ofInt 24).toInt32 = Int32.ofNat 24 from rfl, show (Int16.ofInt 480).toInt32 = Int32.ofNat 480 from rfl, show Int32.ofInt 1 = Int32.ofNat 1 from rfl, show Int32.ofInt 0 = Int32.ofNat 0 from rfl, show (0 : Int32) = Int32.ofNat 0 from rfl, show (1 : Int32) = Int32.ofNat 1 from rfl]) <;> (try simp only [← Int32.ofNat_add, ← Int32.ofNat_mul]) <;> (try simp (disch := omega) only [q_cl, q_on, Nat.mul_zero, Nat.zero_mul, Nat.zero_add, Nat.add_zero, Nat.mul_one]) <;> (try simp only [Int32.lt_iff_toInt_lt, Int32.le_iff_toInt_le, ← Int32.toInt_inj, Int64.lt_iff_toInt_lt, Int64.le_iff_toInt_le, ← Int64.toInt_inj, ← Int32.toNat_toInt, mm_k0, mm_k1, mm_K0, mm_K1, mm_K2, Int32.toInt_toInt64, List.length_cons, List.length_nil, vp_updL, upd, ↓reduceIte, not_true_eq_false, not_false_eq_true, mm_x0, mm_K3]) <;> (try simp (disch := omega) only [q_on, q_cl]) <;> omega) | fail) ?_
    conv => whnf
    refine And.intro ⟨by decide, by decide, hcn, ?_, ?_⟩ ?_
    · rw [hcw]
      show 0 + v ≤ 2000
      omega
    · rw [hcw]
      show 0 + v ≤ 25
      omega
    conv => whnf
    have hc : ∀ j, j < v → va_cpy O W 0 0 (Int32.ofNat v).toNatClampNeg j = O j := fun j hj => by
      rw [hcw]
      unfold va_cpy
      rw [if_pos ⟨Nat.zero_le _, by omega⟩]
      congr 1
      omega
    have hE2 : ∃ j, 1 ≤ j ∧ j < v ∧ (O j).toInt ≠ 0 := by
      obtain ⟨j, h1, h2, h3⟩ := hE
      by_cases hj : j = v
      · subst hj
        exact absurd hp h3
      · exact ⟨j, h1, by omega, h3⟩
    refine hC _ _ _ _ _ _ (k_101_58 (W := va_cpy O W 0 0 (Int32.ofNat v).toNatClampNeg) (w := v) hv (by omega) (fun j h1 h2 => by rw [hc j h2]; exact hR j h1 (by omega)) (by rw [hc 0 (by omega)]; exact hB) (fun ha => ?_) (fun ha => ?_) (fun _ W' R' g1 g2 g3 => ?_))
    · obtain ⟨j, h1, h2, h3⟩ := hE2
      exact absurd (by rw [← hc j h2]; exact ha j h1 h2) h3
    · obtain ⟨j, h1, h2, h3⟩ := hE2
      exact absurd (by rw [← hc j h2]; exact ha j h1 h2) h3
    · have hq := hQ2 W' R' (fun j h1 h2 => by rw [g3 j h2]; exact (g1 j h1 h2).2) (by rw [g3 0 (by omega)]; rw [hc 0 (by omega)] at g2; exact g2) (by
        obtain ⟨j, h1, h2, h3⟩ := hE2
        refine ⟨j, h1, h2, ?_⟩
        rw [g3 j h2]
        intro h0
        have := (g1 j h1 h2).1.mp h0
        rw [hc j h2] at this
        exact h3 this)
      conv => whnf
      repeat' (first
        | exact hq
        | (refine br_t (by first | decide | ((try simp only [lg_cmp_ge, lg_cmp_le, lg_cmp_gt, lg_cmp_lt, lg_cmp_eq]) <;> (try simp only [show (Int8.ofInt 40).toInt32 = Int32.ofNat 40 from rfl, show (Int8.ofInt 25).toInt32 = Int32.ofNat 25 from rfl, show (Int8.ofInt 24).toInt32 = Int32.ofNat 24 from rfl, show (Int16.ofInt 480).toInt32 = Int32.ofNat 480 from rfl, show Int32.ofInt 1 = Int32.ofNat 1 from rfl, show Int32.ofInt 0 = Int32.ofNat 0 from rfl, show (0 : Int32) = Int32.ofNat 0 from rfl, show (1 : Int32) = Int32.ofNat 1 from rfl]) <;> (try simp only [← Int32.ofNat_add, ← Int32.ofNat_mul]) <;> (try simp (disch := omega) only [q_cl, q_on, Nat.mul_zero, Nat.zero_mul, Nat.zero_add, Nat.add_zero, Nat.mul_one]) <;> (try simp only [Int32.lt_iff_toInt_lt, Int32.le_iff_toInt_le, ← Int32.toInt_inj, Int64.lt_iff_toInt_lt, Int64.le_iff_toInt_le, ← Int64.toInt_inj, ← Int32.toNat_toInt, mm_k0, mm_k1, mm_K0, mm_K1, mm_K2, Int32.toInt_toInt64, List.length_cons, List.length_nil, vp_updL, upd, ↓reduceIte, not_true_eq_false, not_false_eq_true, mm_x0, mm_K3]) <;> (try simp (disch := omega) only [q_on, q_cl]) <;> omega) | fail) ?_; conv => whnf)
        | (refine br_f (by first | decide | ((try simp only [lg_cmp_ge, lg_cmp_le, lg_cmp_gt, lg_cmp_lt, lg_cmp_eq]) <;> (try simp only [show (Int8.ofInt 40).toInt32 = Int32.ofNat 40 from rfl, show (Int8.ofInt 25).toInt32 = Int32.ofNat 25 from rfl, show (Int8.ofInt 24).toInt32 = Int32.ofNat 24 from rfl, show (Int16.ofInt 480).toInt32 = Int32.ofNat 480 from rfl, show Int32.ofInt 1 = Int32.ofNat 1 from rfl, show Int32.ofInt 0 = Int32.ofNat 0 from rfl, show (0 : Int32) = Int32.ofNat 0 from rfl, show (1 : Int32) = Int32.ofNat 1 from rfl]) <;> (try simp only [← Int32.ofNat_add, ← Int32.ofNat_mul]) <;> (try simp (disch := omega) only [q_cl, q_on, Nat.mul_zero, Nat.zero_mul, Nat.zero_add, Nat.add_zero, Nat.mul_one]) <;> (try simp only [Int32.lt_iff_toInt_lt, Int32.le_iff_toInt_le, ← Int32.toInt_inj, Int64.lt_iff_toInt_lt, Int64.le_iff_toInt_le, ← Int64.toInt_inj, ← Int32.toNat_toInt, mm_k0, mm_k1, mm_K0, mm_K1, mm_K2, Int32.toInt_toInt64, List.length_cons, List.length_nil, vp_updL, upd, ↓reduceIte, not_true_eq_false, not_false_eq_true, mm_x0, mm_K3]) <;> (try simp (disch := omega) only [q_on, q_cl]) <;> omega) | fail) ?_; conv => whnf))
  · have hq := hQ hp
    refine br_t (by first | decide | ((try simp only [lg_cmp_ge, lg_cmp_le, lg_cmp_gt, lg_cmp_lt, lg_cmp_eq]) <;> (try simp only [show (Int8.ofInt 40).toInt32 = Int32.ofNat 40 from rfl, show (Int8.ofInt 25).toInt32 = Int32.ofNat 25 from rfl, show (Int8.ofInt 24).toInt32 = Int32.ofNat 24 from rfl, show (Int16.ofInt 480).toInt32 = Int32.ofNat 480 from rfl, show Int32.ofInt 1 = Int32.ofNat 1 from rfl, show Int32.ofInt 0 = Int32.ofNat 0 from rfl, show (0 : Int32) = Int32.ofNat 0 from rfl, show (1 : Int32) = Int32.ofNat 1 from rfl]) <;> (try simp only [← Int32.ofNat_add, ← Int32.ofNat_mul]) <;> (try simp (disch := omega) only [q_cl, q_on, Nat.mul_zero, Nat.zero_mul, Nat.zero_add, Nat.add_zero, Nat.mul_one]) <;> (try simp only [Int32.lt_iff_toInt_lt, Int32.le_iff_toInt_le, ← Int32.toInt_inj, Int64.lt_iff_toInt_lt, Int64.le_iff_toInt_le, ← Int64.toInt_inj, ← Int32.toNat_toInt, mm_k0, mm_k1, mm_K0, mm_K1, mm_K2, Int32.toInt_toInt64, List.length_cons, List.length_nil, vp_updL, upd, ↓reduceIte, not_true_eq_false, not_false_eq_true, mm_x0, mm_K3]) <;> (try simp (disch := omega) only [q_on, q_cl]) <;> omega) | fail) ?_
    conv => whnf
    by_cases hp2 : 0 < (O v).toInt
    · have hpn : (-O v).toInt = -(O v).toInt := q_neg64 (by have := hR v hv (by omega); omega)
      repeat' (first
        | exact hq
        | (refine br_t (by first | decide | ((try simp only [lg_cmp_ge, lg_cmp_le, lg_cmp_gt, lg_cmp_lt, lg_cmp_eq]) <;> (try simp only [show (Int8.ofInt 40).toInt32 = Int32.ofNat 40 from rfl, show (Int8.ofInt 25).toInt32 = Int32.ofNat 25 from rfl, show (Int8.ofInt 24).toInt32 = Int32.ofNat 24 from rfl, show (Int16.ofInt 480).toInt32 = Int32.ofNat 480 from rfl, show Int32.ofInt 1 = Int32.ofNat 1 from rfl, show Int32.ofInt 0 = Int32.ofNat 0 from rfl, show (0 : Int32) = Int32.ofNat 0 from rfl, show (1 : Int32) = Int32.ofNat 1 from rfl]) <;> (try simp only [← Int32.ofNat_add, ← Int32.ofNat_mul]) <;> (try simp (disch := omega) only [q_cl, q_on, Nat.mul_zero, Nat.zero_mul, Nat.zero_add, Nat.add_zero, Nat.mul_one]) <;> (try simp only [Int32.lt_iff_toInt_lt, Int32.le_iff_toInt_le, ← Int32.toInt_inj, Int64.lt_iff_toInt_lt, Int64.le_iff_toInt_le, ← Int64.toInt_inj, ← Int32.toNat_toInt, mm_k0, mm_k1, mm_K0, mm_K1, mm_K2, Int32.toInt_toInt64, List.length_cons, List.length_nil, vp_updL, upd, ↓reduceIte, not_true_eq_false, not_false_eq_true, mm_x0, mm_K3, hpn]) <;> (try simp (disch := omega) only [q_on, q_cl]) <;> omega) | fail) ?_; conv => whnf)
        | (refine br_f (by first | decide | ((try simp only [lg_cmp_ge, lg_cmp_le, lg_cmp_gt, lg_cmp_lt, lg_cmp_eq]) <;> (try simp only [show (Int8.ofInt 40).toInt32 = Int32.ofNat 40 from rfl, show (Int8.ofInt 25).toInt32 = Int32.ofNat 25 from rfl, show (Int8.ofInt 24).toInt32 = Int32.ofNat 24 from rfl, show (Int16.ofInt 480).toInt32 = Int32.ofNat 480 from rfl, show Int32.ofInt 1 = Int32.ofNat 1 from rfl, show Int32.ofInt 0 = Int32.ofNat 0 from rfl, show (0 : Int32) = Int32.ofNat 0 from rfl, show (1 : Int32) = Int32.ofNat 1 from rfl]) <;> (try simp only [← Int32.ofNat_add, ← Int32.ofNat_mul]) <;> (try simp (disch := omega) only [q_cl, q_on, Nat.mul_zero, Nat.zero_mul, Nat.zero_add, Nat.add_zero, Nat.mul_one]) <;> (try simp only [Int32.lt_iff_toInt_lt, Int32.le_iff_toInt_le, ← Int32.toInt_inj, Int64.lt_iff_toInt_lt, Int64.le_iff_toInt_le, ← Int64.toInt_inj, ← Int32.toNat_toInt, mm_k0, mm_k1, mm_K0, mm_K1, mm_K2, Int32.toInt_toInt64, List.length_cons, List.length_nil, vp_updL, upd, ↓reduceIte, not_true_eq_false, not_false_eq_true, mm_x0, mm_K3, hpn]) <;> (try simp (disch := omega) only [q_on, q_cl]) <;> omega) | fail) ?_; conv => whnf)
        | (refine And.intro (by first | decide | (unfold vp_in; decide) | ((try unfold vp_in) <;> (try simp only [lg_cmp_ge, lg_cmp_le, lg_cmp_gt, lg_cmp_lt, lg_cmp_eq]) <;> (try simp only [show (Int8.ofInt 40).toInt32 = Int32.ofNat 40 from rfl, show (Int8.ofInt 25).toInt32 = Int32.ofNat 25 from rfl, show (Int8.ofInt 24).toInt32 = Int32.ofNat 24 from rfl, show (Int16.ofInt 480).toInt32 = Int32.ofNat 480 from rfl, show Int32.ofInt 1 = Int32.ofNat 1 from rfl, show Int32.ofInt 0 = Int32.ofNat 0 from rfl, show (0 : Int32) = Int32.ofNat 0 from rfl, show (1 : Int32) = Int32.ofNat 1 from rfl]) <;> (try simp only [← Int32.ofNat_add, ← Int32.ofNat_mul]) <;> (try simp (disch := omega) only [q_cl, q_on, Nat.mul_zero, Nat.zero_mul, Nat.zero_add, Nat.add_zero, Nat.mul_one]) <;> (try simp only [Int32.lt_iff_toInt_lt, Int32.le_iff_toInt_le, ← Int32.toInt_inj, Int64.lt_iff_toInt_lt, Int64.le_iff_toInt_le, ← Int64.toInt_inj, ← Int32.toNat_toInt, mm_k0, mm_k1, mm_K0, mm_K1, mm_K2, Int32.toInt_toInt64, List.length_cons, List.length_nil, vp_updL, upd, ↓reduceIte, not_true_eq_false, not_false_eq_true, mm_x0, mm_K3]) <;> (try simp (disch := omega) only [q_on, q_cl]) <;> omega) | fail) ?_; conv => whnf))
    · repeat' (first
        | exact hq
        | (refine br_t (by first | decide | ((try simp only [lg_cmp_ge, lg_cmp_le, lg_cmp_gt, lg_cmp_lt, lg_cmp_eq]) <;> (try simp only [show (Int8.ofInt 40).toInt32 = Int32.ofNat 40 from rfl, show (Int8.ofInt 25).toInt32 = Int32.ofNat 25 from rfl, show (Int8.ofInt 24).toInt32 = Int32.ofNat 24 from rfl, show (Int16.ofInt 480).toInt32 = Int32.ofNat 480 from rfl, show Int32.ofInt 1 = Int32.ofNat 1 from rfl, show Int32.ofInt 0 = Int32.ofNat 0 from rfl, show (0 : Int32) = Int32.ofNat 0 from rfl, show (1 : Int32) = Int32.ofNat 1 from rfl]) <;> (try simp only [← Int32.ofNat_add, ← Int32.ofNat_mul]) <;> (try simp (disch := omega) only [q_cl, q_on, Nat.mul_zero, Nat.zero_mul, Nat.zero_add, Nat.add_zero, Nat.mul_one]) <;> (try simp only [Int32.lt_iff_toInt_lt, Int32.le_iff_toInt_le, ← Int32.toInt_inj, Int64.lt_iff_toInt_lt, Int64.le_iff_toInt_le, ← Int64.toInt_inj, ← Int32.toNat_toInt, mm_k0, mm_k1, mm_K0, mm_K1, mm_K2, Int32.toInt_toInt64, List.length_cons, List.length_nil, vp_updL, upd, ↓reduceIte, not_true_eq_false, not_false_eq_true, mm_x0, mm_K3]) <;> (try simp (disch := omega) only [q_on, q_cl]) <;> omega) | fail) ?_; conv => whnf)
        | (refine br_f (by first | decide | ((try simp only [lg_cmp_ge, lg_cmp_le, lg_cmp_gt, lg_cmp_lt, lg_cmp_eq]) <;> (try simp only [show (Int8.ofInt 40).toInt32 = Int32.ofNat 40 from rfl, show (Int8.ofInt 25).toInt32 = Int32.ofNat 25 from rfl, show (Int8.ofInt 24).toInt32 = Int32.ofNat 24 from rfl, show (Int16.ofInt 480).toInt32 = Int32.ofNat 480 from rfl, show Int32.ofInt 1 = Int32.ofNat 1 from rfl, show Int32.ofInt 0 = Int32.ofNat 0 from rfl, show (0 : Int32) = Int32.ofNat 0 from rfl, show (1 : Int32) = Int32.ofNat 1 from rfl]) <;> (try simp only [← Int32.ofNat_add, ← Int32.ofNat_mul]) <;> (try simp (disch := omega) only [q_cl, q_on, Nat.mul_zero, Nat.zero_mul, Nat.zero_add, Nat.add_zero, Nat.mul_one]) <;> (try simp only [Int32.lt_iff_toInt_lt, Int32.le_iff_toInt_le, ← Int32.toInt_inj, Int64.lt_iff_toInt_lt, Int64.le_iff_toInt_le, ← Int64.toInt_inj, ← Int32.toNat_toInt, mm_k0, mm_k1, mm_K0, mm_K1, mm_K2, Int32.toInt_toInt64, List.length_cons, List.length_nil, vp_updL, upd, ↓reduceIte, not_true_eq_false, not_false_eq_true, mm_x0, mm_K3]) <;> (try simp (disch := omega) only [q_on, q_cl]) <;> omega) | fail) ?_; conv => whnf))
set_option maxRecDepth 100000 in
set_option maxHeartbeats 40000000 in
theorem lp_99 {L : Nat} {xs : Nat → Int32} {d sl : Nat} {Q : mm_K} (hK : ∀ W : Nat → Int64, (∀ j, j < 25 → W j = -ax j) → mm_w tb_P L xs (mm_call tb_P L xs d) 99 5000 121 [(5, .int 3), (0, .ref 57)] [] (tb_H ln lf sr ss sc gv r1 r2 kp wd tm fa R O W ax mt ml mr mfr mfa mf mg mR mF mT m1 m2 m3 ou) sl Q) : ∀ (t i N : Nat) (W : Nat → Int64), i + t = 25 → 40 * t + 5040 ≤ N → (∀ j, j < i → W j = -ax j) → mm_w tb_P L xs (mm_call tb_P L xs d) 99 N 92 [(6, .int (Int32.ofNat i)), (5, .int 3), (4, .ref 80), (0, .ref 57)] [] (tb_H ln lf sr ss sc gv r1 r2 kp wd tm fa R O W ax mt ml mr mfr mfa mf mg mR mF mT m1 m2 m3 ou) sl Q
  | 0, i, N, f, hi, hN, hf => by
    obtain ⟨N', rfl⟩ : ∃ N', N = N' + 40 := ⟨N - 40, by omega⟩
    obtain rfl : i = 25 := by omega
    refine mm_on (fun k pc => (Nat.beq k 99 && Nat.beq pc 92) || (Nat.beq k 99 && Nat.beq pc 121)) (fun _ => false) (fun F C hF hC => ?_)
    conv => whnf
    refine br_t (by first | decide | ((try simp only [lg_cmp_ge, lg_cmp_le, lg_cmp_gt, lg_cmp_lt, lg_cmp_eq]) <;> (try simp only [show (Int8.ofInt 40).toInt32 = Int32.ofNat 40 from rfl, show (Int8.ofInt 25).toInt32 = Int32.ofNat 25 from rfl, show (Int8.ofInt 24).toInt32 = Int32.ofNat 24 from rfl, show (Int16.ofInt 480).toInt32 = Int32.ofNat 480 from rfl, show Int32.ofInt 1 = Int32.ofNat 1 from rfl, show Int32.ofInt 0 = Int32.ofNat 0 from rfl, show (0 : Int32) = Int32.ofNat 0 from rfl, show (1 : Int32) = Int32.ofNat 1 from rfl]) <;> (try simp only [← Int32.ofNat_add, ← Int32.ofNat_mul]) <;> (try simp (disch := omega) only [q_cl, q_on, Nat.mul_zero, Nat.zero_mul, Nat.zero_add, Nat.add_zero, Nat.mul_one]) <;> (try simp only [Int32.lt_iff_toInt_lt, Int32.le_iff_toInt_le, ← Int32.toInt_inj, Int64.lt_iff_toInt_lt, Int64.le_iff_toInt_le, ← Int64.toInt_inj, ← Int32.toNat_toInt, mm_k0, mm_k1, mm_K0, mm_K1, mm_K2, Int32.toInt_toInt64, List.length_cons, List.length_nil, vp_updL, upd, ↓reduceIte, not_true_eq_false, not_false_eq_true, mm_x0, mm_K3]) <;> (try simp (disch := omega) only [q_on, q_cl]) <;> omega) | fail) ?_
    conv => whnf
    exact hF _ _ _ _ _ _ _ _ _ (mm_more (hK f hf) (by omega) rfl ⟨rfl, rfl, trivial⟩)
  | t + 1, i, N, f, hi, hN, hf => by
    obtain ⟨N', rfl⟩ : ∃ N', N = N' + 40 := ⟨N - 40, by omega⟩
    refine mm_on (fun k pc => (Nat.beq k 99 && Nat.beq pc 92) || (Nat.beq k 99 && Nat.beq pc 121)) (fun _ => false) (fun F C hF hC => ?_)
    conv => whnf
    refine br_f (by first | decide | ((try simp only [lg_cmp_ge, lg_cmp_le, lg_cmp_gt, lg_cmp_lt, lg_cmp_eq]) <;> (try simp only [show (Int8.ofInt 40).toInt32 = Int32.ofNat 40 from rfl, show (Int8.ofInt 25).toInt32 = Int32.ofNat 25 from rfl, show (Int8.ofInt 24).toInt32 = Int32.ofNat 24 from rfl, show (Int16.ofInt 480).toInt32 = Int32.ofNat 480 from rfl, show Int32.ofInt 1 = Int32.ofNat 1 from rfl, show Int32.ofInt 0 = Int32.ofNat 0 from rfl, show (0 : Int32) = Int32.ofNat 0 from rfl, show (1 : Int32) = Int32.ofNat 1 from rfl]) <;> (try simp only [← Int32.ofNat_add, ← Int32.ofNat_mul]) <;> (try simp (disch := omega) only [q_cl, q_on, Nat.mul_zero, Nat.zero_mul, Nat.zero_add, Nat.add_zero, Nat.mul_one]) <;> (try simp only [Int32.lt_iff_toInt_lt, Int32.le_iff_toInt_le, ← Int32.toInt_inj, Int64.lt_iff_toInt_lt, Int64.le_iff_toInt_le, ← Int64.toInt_inj, ← Int32.toNat_toInt, mm_k0, mm_k1, mm_K0, mm_K1, mm_K2, Int32.toInt_toInt64, List.length_cons, List.length_nil, vp_updL, upd, ↓reduceIte, not_true_eq_false, not_false_eq_true, mm_x0, mm_K3]) <;> (try simp (disch := omega) only [q_on, q_cl]) <;> omega) | fail) ?_
    conv => whnf
    refine And.intro (by first | decide | (unfold vp_in; decide) | ((try unfold vp_in) <;> (try simp only [lg_cmp_ge, lg_cmp_le, lg_cmp_gt, lg_cmp_lt, lg_cmp_eq]) <;> (try simp only [show (Int8.ofInt 40).toInt32 = Int32.ofNat 40 from rfl, show (Int8.ofInt 25).toInt32 = Int32.ofNat 25 from rfl, show (Int8.ofInt 24).toInt32 = Int32.ofNat 24 from rfl, show (Int16.ofInt 480).toInt32 = Int32.ofNat 480 from rfl, show Int32.ofInt 1 = Int32.ofNat 1 from rfl, show Int32.ofInt 0 = Int32.ofNat 0 from rfl, show (0 : Int32) = Int32.ofNat 0 from rfl, show (1 : Int32) = Int32.ofNat 1 from rfl]) <;> (try simp only [← Int32.ofNat_add, ← Int32.ofNat_mul]) <;> (try simp (disch := omega) only [q_cl, q_on, Nat.mul_zero, Nat.zero_mul, Nat.zero_add, Nat.add_zero, Nat.mul_one]) <;> (try simp only [Int32.lt_iff_toInt_lt, Int32.le_iff_toInt_le, ← Int32.toInt_inj, Int64.lt_iff_toInt_lt, Int64.le_iff_toInt_le, ← Int64.toInt_inj, ← Int32.toNat_toInt, mm_k0, mm_k1, mm_K0, mm_K1, mm_K2, Int32.toInt_toInt64, List.length_cons, List.length_nil, vp_updL, upd, ↓reduceIte, not_true_eq_false, not_false_eq_true, mm_x0, mm_K3]) <;> (try simp (disch := omega) only [q_on, q_cl]) <;> omega) | fail) ?_
    conv => whnf
    refine And.intro (by first | decide | (unfold vp_in; decide) | ((try unfold vp_in) <;> (try simp only [lg_cmp_ge, lg_cmp_le, lg_cmp_gt, lg_cmp_lt, lg_cmp_eq]) <;> (try simp only [show (Int8.ofInt 40).toInt32 = Int32.ofNat 40 from rfl, show (Int8.ofInt 25).toInt32 = Int32.ofNat 25 from rfl, show (Int8.ofInt 24).toInt32 = Int32.ofNat 24 from rfl, show (Int16.ofInt 480).toInt32 = Int32.ofNat 480 from rfl, show Int32.ofInt 1 = Int32.ofNat 1 from rfl, show Int32.ofInt 0 = Int32.ofNat 0 from rfl, show (0 : Int32) = Int32.ofNat 0 from rfl, show (1 : Int32) = Int32.ofNat 1 from rfl]) <;> (try simp only [← Int32.ofNat_add, ← Int32.ofNat_mul]) <;> (try simp (disch := omega) only [q_cl, q_on, Nat.mul_zero, Nat.zero_mul, Nat.zero_add, Nat.add_zero, Nat.mul_one]) <;> (try simp only [Int32.lt_iff_toInt_lt, Int32.le_iff_toInt_le, ← Int32.toInt_inj, Int64.lt_iff_toInt_lt, Int64.le_iff_toInt_le, ← Int64.toInt_inj, ← Int32.toNat_toInt, mm_k0, mm_k1, mm_K0, mm_K1, mm_K2, Int32.toInt_toInt64, List.length_cons, List.length_nil, vp_updL, upd, ↓reduceIte, not_true_eq_false, not_false_eq_true, mm_x0, mm_K3]) <;> (try simp (disch := omega) only [q_on, q_cl]) <;> omega) | fail) ?_
    conv => whnf
    rw [q_inc]
    exact hF _ _ _ _ _ _ _ _ _ (mm_more (lp_99 hK t (i + 1) N' _ (by omega) (by omega) (q_N_step hf (by (try simp only [show (Int8.ofInt 40).toInt32 = Int32.ofNat 40 from rfl, show (Int8.ofInt 25).toInt32 = Int32.ofNat 25 from rfl, show (Int8.ofInt 24).toInt32 = Int32.ofNat 24 from rfl, show (Int16.ofInt 480).toInt32 = Int32.ofNat 480 from rfl, show Int32.ofInt 1 = Int32.ofNat 1 from rfl, show Int32.ofInt 0 = Int32.ofNat 0 from rfl, show (0 : Int32) = Int32.ofNat 0 from rfl, show (1 : Int32) = Int32.ofNat 1 from rfl]) <;> (try simp only [← Int32.ofNat_add, ← Int32.ofNat_mul]) <;> (try simp (disch := omega) only [q_cl, Nat.mul_zero, Nat.zero_mul, Nat.zero_add, Nat.add_zero, Nat.mul_one]) <;> first | rfl | omega | fail) (by (try simp only [show (Int8.ofInt 40).toInt32 = Int32.ofNat 40 from rfl, show (Int8.ofInt 25).toInt32 = Int32.ofNat 25 from rfl, show (Int8.ofInt 24).toInt32 = Int32.ofNat 24 from rfl, show (Int16.ofInt 480).toInt32 = Int32.ofNat 480 from rfl, show Int32.ofInt 1 = Int32.ofNat 1 from rfl, show Int32.ofInt 0 = Int32.ofNat 0 from rfl, show (0 : Int32) = Int32.ofNat 0 from rfl, show (1 : Int32) = Int32.ofNat 1 from rfl]) <;> (try simp only [← Int32.ofNat_add, ← Int32.ofNat_mul]) <;> (try simp (disch := omega) only [q_cl, Nat.mul_zero, Nat.zero_mul, Nat.zero_add, Nat.add_zero, Nat.mul_one]) <;> first | rfl | omega | fail))) (Nat.le_add_right N' _) rfl ⟨rfl, rfl, rfl, rfl, trivial⟩)
set_option maxRecDepth 100000 in
set_option maxHeartbeats 40000000 in
theorem k_99 {L : Nat} {xs : Nat → Int32} {d sl : Nat} {Q : mm_K} (h1 : (ax 1).toInt.natAbs ≤ 1000) (h2 : (ax 2).toInt.natAbs ≤ 1000) (h3 : (ax 3).toInt.natAbs ≤ 1000) (h0 : (ax 0).toInt.natAbs ≤ 10000000) (hQ1 : ((ax 1).toInt = 0 ∧ (ax 2).toInt = 0 ∧ (ax 3).toInt = 0 ∧ 0 ≤ (ax 0).toInt) → ∀ (r1 r2 : Nat) (kp wd tm fa : Int32) (R O W : Nat → Int64), Q (.inl (some (.int 1))) (tb_H ln lf sr ss sc gv r1 r2 kp wd tm fa R O W ax mt ml mr mfr mfa mf mg mR mF mT m1 m2 m3 ou) sl) (hQ0 : ¬ ((ax 1).toInt = 0 ∧ (ax 2).toInt = 0 ∧ (ax 3).toInt = 0 ∧ 0 ≤ (ax 0).toInt) → ∀ (r1 r2 : Nat) (kp wd tm fa : Int32) (R O W : Nat → Int64), Q (.inl (some (.int 0))) (tb_H ln lf sr ss sc gv r1 r2 kp wd tm fa R O W ax mt ml mr mfr mfa mf mg mR mF mT m1 m2 m3 ou) sl) : mm_call tb_P L xs (d + 6) 99 [.ref 57, .ref 61, .int 0, .int 3, .ref 80] (tb_H ln lf sr ss sc gv 58 59 kp wd tm fa R O W ax mt ml mr mfr mfa mf mg mR mF mT m1 m2 m3 ou) sl Q := by
  refine mm_run (fun k pc => (Nat.beq k 99 && Nat.beq pc 92)) (fun k => Nat.beq k 130 || Nat.beq k 131) (fun F C hF hC => ?_)
  refine Exists.intro 20000 ?_
  conv => whnf
  repeat' (first
    | (refine br_t (by decide) ?_; conv => whnf)
    | (refine br_f (by decide) ?_; conv => whnf)
    | (refine And.intro (by decide) ?_; conv => whnf)
    | (refine Exists.intro 100 ?_; conv => whnf))
  refine hF _ _ _ _ _ _ _ _ _ (mm_more (lp_99 (fun T hT => ?_) 25 0 10000 _ (by omega) (by omega) (fun j hj => absurd hj (Nat.not_lt_zero j))) (by decide) rfl ⟨rfl, rfl, rfl, rfl, trivial⟩)
  clear hF hC
  have n0 : (T 0).toInt = -(ax 0).toInt := by rw [hT 0 (by omega), q_neg64 (by omega)]
  have n1 : (T 1).toInt = -(ax 1).toInt := by rw [hT 1 (by omega), q_neg64 (by omega)]
  have n2 : (T 2).toInt = -(ax 2).toInt := by rw [hT 2 (by omega), q_neg64 (by omega)]
  have n3 : (T 3).toInt = -(ax 3).toInt := by rw [hT 3 (by omega), q_neg64 (by omega)]
  have u0 : (vp_updL T 0 (T 0 - 1) 0).toInt = -(ax 0).toInt - 1 := by
    unfold vp_updL
    rw [if_pos rfl, q_sub64 (by have : (1 : Int64).toInt = 1 := rfl; omega) (by have : (1 : Int64).toInt = 1 := rfl; omega), show (1 : Int64).toInt = 1 from rfl, n0]
  have u1 : (vp_updL T 0 (T 0 - 1) 1).toInt = -(ax 1).toInt := n1
  have u2 : (vp_updL T 0 (T 0 - 1) 2).toInt = -(ax 2).toInt := n2
  have u3 : (vp_updL T 0 (T 0 - 1) 3).toInt = -(ax 3).toInt := n3
  have c3 : ∀ {p : Nat → Prop} {j : Nat}, 1 ≤ j → j < 4 → p 1 → p 2 → p 3 → p j := by
    intro p j g1 g2 p1 p2 p3
    rcases (by omega : j = 1 ∨ j = 2 ∨ j = 3) with rfl | rfl | rfl
    · exact p1
    · exact p2
    · exact p3
  refine mm_on (fun _ _ => false) (fun _ => false) (fun F C hF hC => ?_)
  conv => whnf
  refine And.intro (by unfold vp_in; decide) ?_
  conv => whnf
  refine And.intro (by unfold vp_in; decide) ?_
  conv => whnf
  refine hC _ _ _ _ _ _ (k_101_58 (W := vp_updL T 0 (T 0 - 1)) (w := 4) (by omega) (by omega) (fun j g1 g2 => c3 (p := fun j => (vp_updL T 0 (T 0 - 1) j).toInt.natAbs ≤ 1000) g1 g2 (by rw [u1]; omega) (by rw [u2]; omega) (by rw [u3]; omega)) (by rw [u0]; omega) (fun ha hb => ?_) (fun ha hb => ?_) (fun he W' R' g1 g2 g3 => ?_))
  · have a1 := ha 1 (by omega) (by omega)
    have a2 := ha 2 (by omega) (by omega)
    have a3 := ha 3 (by omega) (by omega)
    rw [u1] at a1
    rw [u2] at a2
    rw [u3] at a3
    rw [u0] at hb
    have hq := hQ1 ⟨by omega, by omega, by omega, by omega⟩
    conv => whnf
    repeat' (first
      | exact And.intro (by decide) (hq _ _ _ _ _ _ _ _ _)
      | (refine br_t (by decide) ?_; conv => whnf)
      | (refine br_f (by decide) ?_; conv => whnf))
  · rw [u0] at hb
    have hq := hQ0 (fun h => by have := h.2.2.2; omega)
    conv => whnf
    repeat' (first
      | exact And.intro (by decide) (hq _ _ _ _ _ _ _ _ _)
      | (refine br_t (by decide) ?_; conv => whnf)
      | (refine br_f (by decide) ?_; conv => whnf)
      | (refine hC _ _ _ _ _ _ (k_100a_58 ?_); conv => whnf)
      | (refine hC _ _ _ _ _ _ (k_100a_59 ?_); conv => whnf))
  · have hq := hQ0 (fun h => by
      obtain ⟨j, h5, h6, h7⟩ := he
      exact c3 (p := fun j => (vp_updL T 0 (T 0 - 1) j).toInt ≠ 0 → False) h5 h6 (fun g => g (by rw [u1]; omega)) (fun g => g (by rw [u2]; omega)) (fun g => g (by rw [u3]; omega)) h7)
    rw [u0] at g2
    have he' : ∃ j, 1 ≤ j ∧ j ≤ 3 ∧ (R' j).toInt ≠ 0 := by
      obtain ⟨j, h5, h6, h7⟩ := he
      exact ⟨j, h5, by omega, by rw [g3 j h6]; exact fun g => h7 ((g1 j h5 h6).1.mp g)⟩
    have hb' : ∀ j, 1 ≤ j → j ≤ 3 → (R' j).toInt.natAbs ≤ 1000 := fun j h5 h6 => by
      rw [g3 j (by omega)]
      exact (g1 j h5 (by omega)).2
    have hc' : (R' 0).toInt.natAbs ≤ 10000002 := by
      rw [g3 0 (by omega)]
      omega
    conv => whnf
    repeat' (first
      | exact And.intro (by decide) (hq _ _ _ _ _ _ _ _ _)
      | (refine br_t (by decide) ?_; conv => whnf)
      | (refine br_f (by decide) ?_; conv => whnf)
      | (refine hC _ _ _ _ _ _ (k_100a_58 ?_); conv => whnf)
      | (refine hC _ _ _ _ _ _ (k_100a_59 ?_); conv => whnf)
      | (refine hC _ _ _ _ _ _ (k_100b_58 (v := 3) (by omega) (by omega) hb' (by omega) he' (fun _ => ?_) (fun W' R' hb' hc' he' => ?_)) <;> conv => whnf)
      | (refine hC _ _ _ _ _ _ (k_100b_59 (v := 2) (by omega) (by omega) (fun j h5 h6 => hb' j h5 (by omega)) (by omega) (by obtain ⟨j, h5, h6, h7⟩ := he'; exact ⟨j, h5, by omega, h7⟩) (fun _ => ?_) (fun W' R' hb' hc' he' => ?_)) <;> conv => whnf)
      | (refine hC _ _ _ _ _ _ (k_100b_58 (v := 1) (by omega) (by omega) (fun j h5 h6 => hb' j h5 (by omega)) (by omega) (by obtain ⟨j, h5, h6, h7⟩ := he'; exact ⟨j, h5, by omega, h7⟩) (fun _ => ?_) (fun W' R' hb' hc' he' => ?_)) <;> conv => whnf))
set_option maxRecDepth 100000 in
set_option maxHeartbeats 40000000 in
theorem k_104 {L : Nat} {xs : Nat → Int32} {d sl : Nat} {Q : mm_K} {a b c e : Int32} (hQ : ∀ ax : Nat → Int64, ax 0 = e.toInt64 → ax 1 = a.toInt64 → ax 2 = b.toInt64 → ax 3 = c.toInt64 → Q (.inl none) (tb_H ln lf sr ss sc gv r1 r2 kp wd tm fa R O W ax mt ml mr mfr mfa mf mg mR mF mT m1 m2 m3 ou) sl) : mm_call tb_P L xs (d + 3) 104 [.ref 80, .int a, .int b, .int c, .int e] (tb_H ln lf sr ss sc gv r1 r2 kp wd tm fa R O W ax mt ml mr mfr mfa mf mg mR mF mT m1 m2 m3 ou) sl Q := by
  refine mm_run (fun _ _ => false) (fun _ => true) (fun F C hF hC => ?_)
  refine Exists.intro 500 ?_
  conv => whnf
  repeat' (first
    | (refine br_t (by first | decide | (dsimp only; decide) | fail) ?_; conv => whnf)
    | (refine br_f (by first | decide | (dsimp only; decide) | fail) ?_; conv => whnf)
    | (refine And.intro (by first | decide | (unfold vp_in; decide)) ?_; conv => whnf)
    | (refine Exists.intro 1000 ?_; conv => whnf)
    | exact hQ _ rfl rfl rfl rfl)
end
theorem q_4 {mg : Nat → Int64} {a b c : Int64} (g0 : mg 0 = a) (g1 : mg 1 = b) (g2 : mg 2 = c) (gj : ∀ j, 3 ≤ j → j < 24 → mg j = 0) {p : Int64 → Prop} (p0 : p a) (p1 : p b) (p2 : p c) (pj : p 0) {j : Nat} (hj : j < 24) : p (mg j) := by
  by_cases h3 : 3 ≤ j
  · rw [gj j h3 hj]
    exact pj
  · rcases (by omega : j = 0 ∨ j = 1 ∨ j = 2) with rfl | rfl | rfl
    · rw [g0]; exact p0
    · rw [g1]; exact p1
    · rw [g2]; exact p2
set_option maxRecDepth 100000 in
set_option maxHeartbeats 40000000 in
theorem c_ask {xs : Nat → Int32} : mm_wE tb_P 6 xs (mm_callE tb_P 6 xs 99) 0 375 1082 tb_LS [] tb_G 159584 tb_Q := by
  rw [mm_wE_eq, mm_callE_eq]
  refine mm_on (fun k pc => false) (fun k => !(Nat.beq k 104 || Nat.beq k 99 || Nat.beq k 51 || Nat.beq k 59)) (fun F C hF hC => ?_)
  conv => whnf
  repeat' (first
    | exact rfl
    | (refine hC _ _ _ _ _ _ (k_104 (fun ax e0 e1 e2 e3 => ?_)); conv => whnf)
    | (refine hC _ _ _ _ _ _ (k_99 (by simp only [e1, Int32.lt_iff_toInt_lt, Int32.le_iff_toInt_le, ← Int32.toInt_inj, Int64.lt_iff_toInt_lt, Int64.le_iff_toInt_le, ← Int64.toInt_inj, ← Int32.toNat_toInt, mm_k0, mm_k1, mm_K0, mm_K1, mm_K2, Int32.toInt_toInt64, List.length_cons, List.length_nil, vp_updL, upd, ↓reduceIte, not_true_eq_false, not_false_eq_true, mm_x0, mm_K3]; omega) (by simp only [e2, Int32.lt_iff_toInt_lt, Int32.le_iff_toInt_le, ← Int32.toInt_inj, Int64.lt_iff_toInt_lt, Int64.le_iff_toInt_le, ← Int64.toInt_inj, ← Int32.toNat_toInt, mm_k0, mm_k1, mm_K0, mm_K1, mm_K2, Int32.toInt_toInt64, List.length_cons, List.length_nil, vp_updL, upd, ↓reduceIte, not_true_eq_false, not_false_eq_true, mm_x0, mm_K3]; omega) (by simp only [e3, Int32.lt_iff_toInt_lt, Int32.le_iff_toInt_le, ← Int32.toInt_inj, Int64.lt_iff_toInt_lt, Int64.le_iff_toInt_le, ← Int64.toInt_inj, ← Int32.toNat_toInt, mm_k0, mm_k1, mm_K0, mm_K1, mm_K2, Int32.toInt_toInt64, List.length_cons, List.length_nil, vp_updL, upd, ↓reduceIte, not_true_eq_false, not_false_eq_true, mm_x0, mm_K3]; omega) (by simp only [e0, Int32.lt_iff_toInt_lt, Int32.le_iff_toInt_le, ← Int32.toInt_inj, Int64.lt_iff_toInt_lt, Int64.le_iff_toInt_le, ← Int64.toInt_inj, ← Int32.toNat_toInt, mm_k0, mm_k1, mm_K0, mm_K1, mm_K2, Int32.toInt_toInt64, List.length_cons, List.length_nil, vp_updL, upd, ↓reduceIte, not_true_eq_false, not_false_eq_true, mm_x0, mm_K3]; omega) (fun hA r1 r2 kp wd tm fa R O W => ?_) (fun hA r1 r2 kp wd tm fa R O W => ?_)) <;> rw [e0, e1, e2, e3] at hA <;> (simp only [Int32.lt_iff_toInt_lt, Int32.le_iff_toInt_le, ← Int32.toInt_inj, Int64.lt_iff_toInt_lt, Int64.le_iff_toInt_le, ← Int64.toInt_inj, ← Int32.toNat_toInt, mm_k0, mm_k1, mm_K0, mm_K1, mm_K2, Int32.toInt_toInt64, List.length_cons, List.length_nil, vp_updL, upd, ↓reduceIte, not_true_eq_false, not_false_eq_true, mm_x0, mm_K3] at hA) <;> conv => whnf)
    | (refine hC _ _ _ _ _ _ (k_51 (fun mg g0 g1 g2 g3 gj => ?_)); conv => whnf)
    | (refine hC _ _ _ _ _ _ (k_59 (fun j hj => q_4 g0 g1 g2 gj (p := fun x => x.toInt.natAbs ≤ 1000) (by simp only [Int32.lt_iff_toInt_lt, Int32.le_iff_toInt_le, ← Int32.toInt_inj, Int64.lt_iff_toInt_lt, Int64.le_iff_toInt_le, ← Int64.toInt_inj, ← Int32.toNat_toInt, mm_k0, mm_k1, mm_K0, mm_K1, mm_K2, Int32.toInt_toInt64, List.length_cons, List.length_nil, vp_updL, upd, ↓reduceIte, not_true_eq_false, not_false_eq_true, mm_x0, mm_K3]; omega) (by simp only [Int32.lt_iff_toInt_lt, Int32.le_iff_toInt_le, ← Int32.toInt_inj, Int64.lt_iff_toInt_lt, Int64.le_iff_toInt_le, ← Int64.toInt_inj, ← Int32.toNat_toInt, mm_k0, mm_k1, mm_K0, mm_K1, mm_K2, Int32.toInt_toInt64, List.length_cons, List.length_nil, vp_updL, upd, ↓reduceIte, not_true_eq_false, not_false_eq_true, mm_x0, mm_K3]; omega) (by simp only [Int32.lt_iff_toInt_lt, Int32.le_iff_toInt_le, ← Int32.toInt_inj, Int64.lt_iff_toInt_lt, Int64.le_iff_toInt_le, ← Int64.toInt_inj, ← Int32.toNat_toInt, mm_k0, mm_k1, mm_K0, mm_K1, mm_K2, Int32.toInt_toInt64, List.length_cons, List.length_nil, vp_updL, upd, ↓reduceIte, not_true_eq_false, not_false_eq_true, mm_x0, mm_K3]; omega) (by decide) hj) (by simp only [g3, Int32.lt_iff_toInt_lt, Int32.le_iff_toInt_le, ← Int32.toInt_inj, Int64.lt_iff_toInt_lt, Int64.le_iff_toInt_le, ← Int64.toInt_inj, ← Int32.toNat_toInt, mm_k0, mm_k1, mm_K0, mm_K1, mm_K2, Int32.toInt_toInt64, List.length_cons, List.length_nil, vp_updL, upd, ↓reduceIte, not_true_eq_false, not_false_eq_true, mm_x0, mm_K3]; omega) (fun hz hd mr mfr mT mF mR => ?_) (fun hn mr mfr mT mF mR => ?_)) <;> (first | (have z0 := hz 0 (by omega); have z1 := hz 1 (by omega); have z2 := hz 2 (by omega); rw [g0] at z0; rw [g1] at z1; rw [g2] at z2; rw [g3] at hd; simp only [Int32.lt_iff_toInt_lt, Int32.le_iff_toInt_le, ← Int32.toInt_inj, Int64.lt_iff_toInt_lt, Int64.le_iff_toInt_le, ← Int64.toInt_inj, ← Int32.toNat_toInt, mm_k0, mm_k1, mm_K0, mm_K1, mm_K2, Int32.toInt_toInt64, List.length_cons, List.length_nil, vp_updL, upd, ↓reduceIte, not_true_eq_false, not_false_eq_true, mm_x0, mm_K3] at z0 z1 z2 hd; first | (exfalso; omega) | skip) | (first | (exfalso; exact hn ⟨fun j hj => q_4 g0 g1 g2 gj (p := fun x => x.toInt = 0) (by simp only [Int32.lt_iff_toInt_lt, Int32.le_iff_toInt_le, ← Int32.toInt_inj, Int64.lt_iff_toInt_lt, Int64.le_iff_toInt_le, ← Int64.toInt_inj, ← Int32.toNat_toInt, mm_k0, mm_k1, mm_K0, mm_K1, mm_K2, Int32.toInt_toInt64, List.length_cons, List.length_nil, vp_updL, upd, ↓reduceIte, not_true_eq_false, not_false_eq_true, mm_x0, mm_K3]; omega) (by simp only [Int32.lt_iff_toInt_lt, Int32.le_iff_toInt_le, ← Int32.toInt_inj, Int64.lt_iff_toInt_lt, Int64.le_iff_toInt_le, ← Int64.toInt_inj, ← Int32.toNat_toInt, mm_k0, mm_k1, mm_K0, mm_K1, mm_K2, Int32.toInt_toInt64, List.length_cons, List.length_nil, vp_updL, upd, ↓reduceIte, not_true_eq_false, not_false_eq_true, mm_x0, mm_K3]; omega) (by simp only [Int32.lt_iff_toInt_lt, Int32.le_iff_toInt_le, ← Int32.toInt_inj, Int64.lt_iff_toInt_lt, Int64.le_iff_toInt_le, ← Int64.toInt_inj, ← Int32.toNat_toInt, mm_k0, mm_k1, mm_K0, mm_K1, mm_K2, Int32.toInt_toInt64, List.length_cons, List.length_nil, vp_updL, upd, ↓reduceIte, not_true_eq_false, not_false_eq_true, mm_x0, mm_K3]; omega) rfl hj, by simp only [g3, Int32.lt_iff_toInt_lt, Int32.le_iff_toInt_le, ← Int32.toInt_inj, Int64.lt_iff_toInt_lt, Int64.le_iff_toInt_le, ← Int64.toInt_inj, ← Int32.toNat_toInt, mm_k0, mm_k1, mm_K0, mm_K1, mm_K2, Int32.toInt_toInt64, List.length_cons, List.length_nil, vp_updL, upd, ↓reduceIte, not_true_eq_false, not_false_eq_true, mm_x0, mm_K3]; omega⟩) | skip)) <;> conv => whnf)
    | (refine br_t (by first | decide | (((try simp only [lg_cmp_ge, lg_cmp_le, lg_cmp_gt, lg_cmp_lt, lg_cmp_eq]) <;> (try simp only [Int32.lt_iff_toInt_lt, Int32.le_iff_toInt_le, ← Int32.toInt_inj, Int64.lt_iff_toInt_lt, Int64.le_iff_toInt_le, ← Int64.toInt_inj, ← Int32.toNat_toInt, mm_k0, mm_k1, mm_K0, mm_K1, mm_K2, Int32.toInt_toInt64, List.length_cons, List.length_nil, vp_updL, upd, ↓reduceIte, not_true_eq_false, not_false_eq_true, mm_x0, mm_K3]) <;> omega)) | fail) ?_; conv => whnf)
    | (refine br_f (by first | decide | (((try simp only [lg_cmp_ge, lg_cmp_le, lg_cmp_gt, lg_cmp_lt, lg_cmp_eq]) <;> (try simp only [Int32.lt_iff_toInt_lt, Int32.le_iff_toInt_le, ← Int32.toInt_inj, Int64.lt_iff_toInt_lt, Int64.le_iff_toInt_le, ← Int64.toInt_inj, ← Int32.toNat_toInt, mm_k0, mm_k1, mm_K0, mm_K1, mm_K2, Int32.toInt_toInt64, List.length_cons, List.length_nil, vp_updL, upd, ↓reduceIte, not_true_eq_false, not_false_eq_true, mm_x0, mm_K3]) <;> omega)) | fail) ?_; conv => whnf)
    | (refine And.intro (by first | decide | (unfold vp_in; decide) | (((try unfold vp_in) <;> (try simp only [lg_cmp_ge, lg_cmp_le, lg_cmp_gt, lg_cmp_lt, lg_cmp_eq]) <;> (try simp only [Int32.lt_iff_toInt_lt, Int32.le_iff_toInt_le, ← Int32.toInt_inj, Int64.lt_iff_toInt_lt, Int64.le_iff_toInt_le, ← Int64.toInt_inj, ← Int32.toNat_toInt, mm_k0, mm_k1, mm_K0, mm_K1, mm_K2, Int32.toInt_toInt64, List.length_cons, List.length_nil, vp_updL, upd, ↓reduceIte, not_true_eq_false, not_false_eq_true, mm_x0, mm_K3]) <;> omega)) | fail) ?_; conv => whnf)
    | (refine Exists.intro 3000 ?_; conv => whnf)
    | (refine And.intro (fun h => absurd h (by first | decide | (((try simp only [lg_cmp_ge, lg_cmp_le, lg_cmp_gt, lg_cmp_lt, lg_cmp_eq]) <;> (try simp only [Int32.lt_iff_toInt_lt, Int32.le_iff_toInt_le, ← Int32.toInt_inj, Int64.lt_iff_toInt_lt, Int64.le_iff_toInt_le, ← Int64.toInt_inj, ← Int32.toNat_toInt, mm_k0, mm_k1, mm_K0, mm_K1, mm_K2, Int32.toInt_toInt64, List.length_cons, List.length_nil, vp_updL, upd, ↓reduceIte, not_true_eq_false, not_false_eq_true, mm_x0, mm_K3]) <;> omega)) | fail)) ?_; conv => whnf)
    | (refine And.intro (fun h => ?_) (fun h => ?_) <;> (try simp only [lg_cmp_ge, lg_cmp_le, lg_cmp_gt, lg_cmp_lt, lg_cmp_eq] at h) <;> (try simp only [Int32.lt_iff_toInt_lt, Int32.le_iff_toInt_le, ← Int32.toInt_inj, Int64.lt_iff_toInt_lt, Int64.le_iff_toInt_le, ← Int64.toInt_inj, ← Int32.toNat_toInt, mm_k0, mm_k1, mm_K0, mm_K1, mm_K2, Int32.toInt_toInt64, List.length_cons, List.length_nil, vp_updL, upd, ↓reduceIte, not_true_eq_false, not_false_eq_true, mm_x0, mm_K3] at h) <;> conv => whnf)
    | (refine And.intro (fun h => ?_) ?_ <;> (try simp only [lg_cmp_ge, lg_cmp_le, lg_cmp_gt, lg_cmp_lt, lg_cmp_eq] at h) <;> (try simp only [Int32.lt_iff_toInt_lt, Int32.le_iff_toInt_le, ← Int32.toInt_inj, Int64.lt_iff_toInt_lt, Int64.le_iff_toInt_le, ← Int64.toInt_inj, ← Int32.toNat_toInt, mm_k0, mm_k1, mm_K0, mm_K1, mm_K2, Int32.toInt_toInt64, List.length_cons, List.length_nil, vp_updL, upd, ↓reduceIte, not_true_eq_false, not_false_eq_true, mm_x0, mm_K3] at h) <;> conv => whnf)
    | exact trivial)

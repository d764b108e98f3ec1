/-! type: bytes counted and written. By wip/mk99.py. -/
section
variable {ln : Int32} {lf : Nat → Int32} {sr : Nat → Int32} {ss : Nat → Int32} {sc : Nat → Int32} {gv : Int32} {r1 : Nat} {r2 : Nat} {kp : Int32} {wd : Int32} {tm : Int32} {fa : Int32} {R : Nat → Int64} {O : Nat → Int64} {W : Nat → Int64} {ax : Nat → Int64} {mt : Int32} {ml : Int32} {mr : Int32} {mfr : Int32} {mfa : Int32} {mf : Nat → Int32} {mg : Nat → Int64} {mR : Nat → Int64} {mF : Nat → Int64} {mT : Nat → Int64} {m1 : Nat → Int32} {m2 : Nat → Int32} {m3 : Nat → Int32} {ou : Nat → Int64}
set_option maxRecDepth 100000 in
set_option maxHeartbeats 40000000 in
theorem k_85 {L : Nat} {xs : Nat → Int32} {d sl : Nat} {Q : mm_K} {g : List va_E} {x : Int32} (hQ : q_bn x ≤ 4 → q_bn x = q_bt x 24 + q_bt x 16 + q_bt x 8 + q_bt x 0 → q_bt x 24 ≤ 1 → q_bt x 16 ≤ 1 → q_bt x 8 ≤ 1 → q_bt x 0 ≤ 1 → Q (.inl (some (.int (Int32.ofNat (q_bn x))))) g sl) : mm_call tb_P L xs (d + 1) 85 [.int x] g sl Q := by
  replace hQ := hQ (q_bn_le x) (q_bn_eq x) (q_bt_le x 24) (q_bt_le x 16) (q_bt_le x 8) (q_bt_le x 0)
  refine mm_run (fun _ _ => false) (fun _ => false) (fun F C hF hC => ?_)
  refine Exists.intro 200 ?_
  conv => whnf
  repeat' (first
    | (refine br_t (by decide) ?_; conv => whnf)
    | (refine br_f (by decide) ?_; conv => whnf)
    | (refine And.intro (fun h => ?_) (fun h => ?_) <;> (first | (first | (have h9 := q_u0 (s := 24) (by decide) (by decide) (by decide) h) | (have h9 := q_u0 (s := 16) (by decide) (by decide) (by decide) h) | (have h9 := q_u0 (s := 8) (by decide) (by decide) (by decide) h) | (have h9 := q_u0 (s := 0) (by decide) (by decide) (by decide) h)) | (first | (have h9 := q_u1 (s := 24) (by decide) (by decide) (by decide) h) | (have h9 := q_u1 (s := 16) (by decide) (by decide) (by decide) h) | (have h9 := q_u1 (s := 8) (by decide) (by decide) (by decide) h) | (have h9 := q_u1 (s := 0) (by decide) (by decide) (by decide) h))) <;> clear h <;> conv => whnf)
    | (rename_i a b c; exact Eq.mp (congrArg (fun v => Q (.inl (some (.int v))) g sl) (show Int32.ofNat (q_bn x) = _ by rw [q_bn_eq, a, b, c, h9]; rfl)) hQ))
set_option maxRecDepth 100000 in
set_option maxHeartbeats 40000000 in
theorem k_89 {L : Nat} {xs : Nat → Int32} {d sl : Nat} {Q : mm_K} {x : Int32} {l : Nat} (hl : l ≤ 400) (hQ : ∀ f, Q (.inl none) (tb_H (Int32.ofNat (l + q_bn x)) f sr ss sc gv r1 r2 kp wd tm fa R O W ax mt ml mr mfr mfa mf mg mR mF mT m1 m2 m3 ou) sl) : mm_call tb_P L xs (d + 1) 89 [.ref 2, .int x] (tb_H (Int32.ofNat l) lf sr ss sc gv r1 r2 kp wd tm fa R O W ax mt ml mr mfr mfa mf mg mR mF mT m1 m2 m3 ou) sl Q := by
  refine mm_run (fun _ _ => false) (fun _ => false) (fun F C hF hC => ?_)
  refine Exists.intro 300 ?_
  conv => whnf
  repeat' (first
    | (refine br_t (by decide) ?_; conv => whnf)
    | (refine br_f (by decide) ?_; conv => whnf)
    | (refine br_t (by first | decide | ((try simp only [lg_cmp_ge, lg_cmp_le, lg_cmp_gt, lg_cmp_lt, lg_cmp_eq]) <;> (try simp only [show (Int8.ofInt 40).toInt32 = Int32.ofNat 40 from rfl, show (Int8.ofInt 25).toInt32 = Int32.ofNat 25 from rfl, show (Int8.ofInt 24).toInt32 = Int32.ofNat 24 from rfl, show (Int16.ofInt 480).toInt32 = Int32.ofNat 480 from rfl, show Int32.ofInt 1 = Int32.ofNat 1 from rfl]) <;> (try simp only [← Int32.ofNat_add, ← Int32.ofNat_mul]) <;> (try simp (disch := omega) only [q_cl, q_on, Nat.mul_zero, Nat.zero_mul, Nat.zero_add, Nat.add_zero, Nat.mul_one]) <;> (try simp only [Int32.lt_iff_toInt_lt, Int32.le_iff_toInt_le, ← Int32.toInt_inj, Int64.lt_iff_toInt_lt, Int64.le_iff_toInt_le, ← Int64.toInt_inj, ← Int32.toNat_toInt, mm_k0, mm_k1, mm_K0, mm_K1, mm_K2, Int32.toInt_toInt64, List.length_cons, List.length_nil, vp_updL, upd, ↓reduceIte, not_true_eq_false, not_false_eq_true, mm_x0, mm_K3]) <;> (try simp (disch := omega) only [q_on, q_cl]) <;> omega) | fail) ?_; conv => whnf)
    | (refine br_f (by first | decide | ((try simp only [lg_cmp_ge, lg_cmp_le, lg_cmp_gt, lg_cmp_lt, lg_cmp_eq]) <;> (try simp only [show (Int8.ofInt 40).toInt32 = Int32.ofNat 40 from rfl, show (Int8.ofInt 25).toInt32 = Int32.ofNat 25 from rfl, show (Int8.ofInt 24).toInt32 = Int32.ofNat 24 from rfl, show (Int16.ofInt 480).toInt32 = Int32.ofNat 480 from rfl, show Int32.ofInt 1 = Int32.ofNat 1 from rfl]) <;> (try simp only [← Int32.ofNat_add, ← Int32.ofNat_mul]) <;> (try simp (disch := omega) only [q_cl, q_on, Nat.mul_zero, Nat.zero_mul, Nat.zero_add, Nat.add_zero, Nat.mul_one]) <;> (try simp only [Int32.lt_iff_toInt_lt, Int32.le_iff_toInt_le, ← Int32.toInt_inj, Int64.lt_iff_toInt_lt, Int64.le_iff_toInt_le, ← Int64.toInt_inj, ← Int32.toNat_toInt, mm_k0, mm_k1, mm_K0, mm_K1, mm_K2, Int32.toInt_toInt64, List.length_cons, List.length_nil, vp_updL, upd, ↓reduceIte, not_true_eq_false, not_false_eq_true, mm_x0, mm_K3]) <;> (try simp (disch := omega) only [q_on, q_cl]) <;> omega) | fail) ?_; conv => whnf)
    | (refine And.intro (by first | decide | (unfold vp_in; decide) | ((try unfold vp_in) <;> (try simp only [lg_cmp_ge, lg_cmp_le, lg_cmp_gt, lg_cmp_lt, lg_cmp_eq]) <;> (try simp only [show (Int8.ofInt 40).toInt32 = Int32.ofNat 40 from rfl, show (Int8.ofInt 25).toInt32 = Int32.ofNat 25 from rfl, show (Int8.ofInt 24).toInt32 = Int32.ofNat 24 from rfl, show (Int16.ofInt 480).toInt32 = Int32.ofNat 480 from rfl, show Int32.ofInt 1 = Int32.ofNat 1 from rfl]) <;> (try simp only [← Int32.ofNat_add, ← Int32.ofNat_mul]) <;> (try simp (disch := omega) only [q_cl, q_on, Nat.mul_zero, Nat.zero_mul, Nat.zero_add, Nat.add_zero, Nat.mul_one]) <;> (try simp only [Int32.lt_iff_toInt_lt, Int32.le_iff_toInt_le, ← Int32.toInt_inj, Int64.lt_iff_toInt_lt, Int64.le_iff_toInt_le, ← Int64.toInt_inj, ← Int32.toNat_toInt, mm_k0, mm_k1, mm_K0, mm_K1, mm_K2, Int32.toInt_toInt64, List.length_cons, List.length_nil, vp_updL, upd, ↓reduceIte, not_true_eq_false, not_false_eq_true, mm_x0, mm_K3]) <;> (try simp (disch := omega) only [q_on, q_cl]) <;> omega) | fail) ?_; conv => whnf)
    | (refine And.intro (fun h => ?_) (fun h => ?_) <;> (first | (first | (have h9 := q_u0 (s := 24) (by decide) (by decide) (by decide) h) | (have h9 := q_u0 (s := 16) (by decide) (by decide) (by decide) h) | (have h9 := q_u0 (s := 8) (by decide) (by decide) (by decide) h) | (have h9 := q_u0 (s := 0) (by decide) (by decide) (by decide) h)) | (first | (have h9 := q_u1 (s := 24) (by decide) (by decide) (by decide) h) | (have h9 := q_u1 (s := 16) (by decide) (by decide) (by decide) h) | (have h9 := q_u1 (s := 8) (by decide) (by decide) (by decide) h) | (have h9 := q_u1 (s := 0) (by decide) (by decide) (by decide) h))) <;> clear h <;> conv => whnf)
    | (rename_i a b c; exact q_eqm (P := fun v => ∀ f, Q (.inl none) (tb_H v f sr ss sc gv r1 r2 kp wd tm fa R O W ax mt ml mr mfr mfa mf mg mR mF mT m1 m2 m3 ou) sl) hQ (by first | (rw [q_bn_eq, a, b, c, h9]; done) | (rw [q_bn_eq, a, b, c, h9]; simp only [q_inc]; done) | (rw [q_bn_eq, a, b, c, h9]; (try simp only [q_inc]); exact congrArg Int32.ofNat (by omega)) | fail) _))
set_option maxRecDepth 100000 in
set_option maxHeartbeats 40000000 in
theorem k_18 {L : Nat} {xs : Nat → Int32} {d sl : Nat} {Q : mm_K} {x s s' : Int32} (hs : s' = s) {l : Nat} (hl : l ≤ 400) (hQ : ∀ f, Q (.inl none) (tb_H ln lf sr ss sc gv r1 r2 kp wd tm fa R O W ax mt (Int32.ofNat (l + q_bt x s)) mr mfr mfa f mg mR mF mT m1 m2 m3 ou) sl) : mm_call tb_P L xs (d + 1) 18 [.ref 82, .int x, .int s'] (tb_H ln lf sr ss sc gv r1 r2 kp wd tm fa R O W ax mt (Int32.ofNat l) mr mfr mfa mf mg mR mF mT m1 m2 m3 ou) sl Q := by
  refine mm_run (fun _ _ => false) (fun _ => false) (fun F C hF hC => ?_)
  refine Exists.intro 300 ?_
  conv => whnf
  (refine And.intro (fun h => ?_) (fun h => ?_) <;> (first | (have h9 := q_a0 (s := s) hs rfl h) | (have h9 := q_a1 (s := s) hs rfl h)) <;> clear h <;> conv => whnf)
  repeat' (first
    | (refine br_t (by first | decide | ((try simp only [lg_cmp_ge, lg_cmp_le, lg_cmp_gt, lg_cmp_lt, lg_cmp_eq]) <;> (try simp only [show (Int8.ofInt 40).toInt32 = Int32.ofNat 40 from rfl, show (Int8.ofInt 25).toInt32 = Int32.ofNat 25 from rfl, show (Int8.ofInt 24).toInt32 = Int32.ofNat 24 from rfl, show (Int16.ofInt 480).toInt32 = Int32.ofNat 480 from rfl, show Int32.ofInt 1 = Int32.ofNat 1 from rfl]) <;> (try simp only [← Int32.ofNat_add, ← Int32.ofNat_mul]) <;> (try simp (disch := omega) only [q_cl, q_on, Nat.mul_zero, Nat.zero_mul, Nat.zero_add, Nat.add_zero, Nat.mul_one]) <;> (try simp only [Int32.lt_iff_toInt_lt, Int32.le_iff_toInt_le, ← Int32.toInt_inj, Int64.lt_iff_toInt_lt, Int64.le_iff_toInt_le, ← Int64.toInt_inj, ← Int32.toNat_toInt, mm_k0, mm_k1, mm_K0, mm_K1, mm_K2, Int32.toInt_toInt64, List.length_cons, List.length_nil, vp_updL, upd, ↓reduceIte, not_true_eq_false, not_false_eq_true, mm_x0, mm_K3]) <;> (try simp (disch := omega) only [q_on, q_cl]) <;> omega) | fail) ?_; conv => whnf)
    | (refine br_f (by first | decide | ((try simp only [lg_cmp_ge, lg_cmp_le, lg_cmp_gt, lg_cmp_lt, lg_cmp_eq]) <;> (try simp only [show (Int8.ofInt 40).toInt32 = Int32.ofNat 40 from rfl, show (Int8.ofInt 25).toInt32 = Int32.ofNat 25 from rfl, show (Int8.ofInt 24).toInt32 = Int32.ofNat 24 from rfl, show (Int16.ofInt 480).toInt32 = Int32.ofNat 480 from rfl, show Int32.ofInt 1 = Int32.ofNat 1 from rfl]) <;> (try simp only [← Int32.ofNat_add, ← Int32.ofNat_mul]) <;> (try simp (disch := omega) only [q_cl, q_on, Nat.mul_zero, Nat.zero_mul, Nat.zero_add, Nat.add_zero, Nat.mul_one]) <;> (try simp only [Int32.lt_iff_toInt_lt, Int32.le_iff_toInt_le, ← Int32.toInt_inj, Int64.lt_iff_toInt_lt, Int64.le_iff_toInt_le, ← Int64.toInt_inj, ← Int32.toNat_toInt, mm_k0, mm_k1, mm_K0, mm_K1, mm_K2, Int32.toInt_toInt64, List.length_cons, List.length_nil, vp_updL, upd, ↓reduceIte, not_true_eq_false, not_false_eq_true, mm_x0, mm_K3]) <;> (try simp (disch := omega) only [q_on, q_cl]) <;> omega) | fail) ?_; conv => whnf)
    | (refine And.intro (by first | decide | (unfold vp_in; decide) | ((try unfold vp_in) <;> (try simp only [lg_cmp_ge, lg_cmp_le, lg_cmp_gt, lg_cmp_lt, lg_cmp_eq]) <;> (try simp only [show (Int8.ofInt 40).toInt32 = Int32.ofNat 40 from rfl, show (Int8.ofInt 25).toInt32 = Int32.ofNat 25 from rfl, show (Int8.ofInt 24).toInt32 = Int32.ofNat 24 from rfl, show (Int16.ofInt 480).toInt32 = Int32.ofNat 480 from rfl, show Int32.ofInt 1 = Int32.ofNat 1 from rfl]) <;> (try simp only [← Int32.ofNat_add, ← Int32.ofNat_mul]) <;> (try simp (disch := omega) only [q_cl, q_on, Nat.mul_zero, Nat.zero_mul, Nat.zero_add, Nat.add_zero, Nat.mul_one]) <;> (try simp only [Int32.lt_iff_toInt_lt, Int32.le_iff_toInt_le, ← Int32.toInt_inj, Int64.lt_iff_toInt_lt, Int64.le_iff_toInt_le, ← Int64.toInt_inj, ← Int32.toNat_toInt, mm_k0, mm_k1, mm_K0, mm_K1, mm_K2, Int32.toInt_toInt64, List.length_cons, List.length_nil, vp_updL, upd, ↓reduceIte, not_true_eq_false, not_false_eq_true, mm_x0, mm_K3]) <;> (try simp (disch := omega) only [q_on, q_cl]) <;> omega) | fail) ?_; conv => whnf)
    | (exact q_eqm (P := fun v => ∀ f, Q (.inl none) (tb_H ln lf sr ss sc gv r1 r2 kp wd tm fa R O W ax mt v mr mfr mfa f mg mR mF mT m1 m2 m3 ou) sl) hQ (by first | (rw [h9]; done) | (rw [h9]; simp only [q_inc]; done) | (rw [h9]; (try simp only [q_inc]); exact congrArg Int32.ofNat (by omega)) | fail) _))
set_option maxRecDepth 100000 in
set_option maxHeartbeats 40000000 in
theorem k_1 {L : Nat} {xs : Nat → Int32} {d sl : Nat} {Q : mm_K} {a b c e z : Int32} (hQ : ∀ (f : Nat → Int32) (S : Nat), S ≤ 20 → S = q_bn a + q_bn b + q_bn c + q_bn e + q_bn z → Q (.inl (some (.int 0))) (tb_H (Int32.ofNat S) f sr ss sc gv r1 r2 kp wd tm fa R O W ax mt ml mr mfr mfa mf mg mR mF mT m1 m2 m3 (vp_updL ou 0 (Int32.ofNat S).toInt64)) sl) : mm_call tb_P L xs (d + 4) 1 [.ref 1, .int a, .int b, .int c, .int e, .int z, .ref 174] (tb_H (Int32.ofNat 0) lf sr ss sc gv r1 r2 kp wd tm fa R O W ax mt ml mr mfr mfa mf mg mR mF mT m1 m2 m3 ou) sl Q := by
  have a1 := q_bn_eq a
  have at24 := q_bt_le a 24
  have at16 := q_bt_le a 16
  have at8 := q_bt_le a 8
  have at0 := q_bt_le a 0
  have b1 := q_bn_eq b
  have bt24 := q_bt_le b 24
  have bt16 := q_bt_le b 16
  have bt8 := q_bt_le b 8
  have bt0 := q_bt_le b 0
  have c1 := q_bn_eq c
  have ct24 := q_bt_le c 24
  have ct16 := q_bt_le c 16
  have ct8 := q_bt_le c 8
  have ct0 := q_bt_le c 0
  have e1 := q_bn_eq e
  have et24 := q_bt_le e 24
  have et16 := q_bt_le e 16
  have et8 := q_bt_le e 8
  have et0 := q_bt_le e 0
  have z1 := q_bn_eq z
  have zt24 := q_bt_le z 24
  have zt16 := q_bt_le z 16
  have zt8 := q_bt_le z 8
  have zt0 := q_bt_le z 0
  refine mm_run (fun _ _ => false) (fun k => Nat.beq k 61) (fun F C hF hC => ?_)
  refine Exists.intro 300 ?_
  conv => whnf
  repeat' (first
    | (refine hC _ _ _ _ _ _ (k_85 (fun b0 b1 b2 b3 b4 b5 => ?_)); conv => whnf)
    | (refine hC _ _ _ _ _ _ (k_89 (l := _) (by omega) (fun f => ?_)); conv => whnf)
    | (refine Exists.intro 300 ?_; conv => whnf)
    | (refine br_t (by first | decide | ((try simp only [lg_cmp_ge, lg_cmp_le, lg_cmp_gt, lg_cmp_lt, lg_cmp_eq]) <;> (try simp only [show (Int8.ofInt 40).toInt32 = Int32.ofNat 40 from rfl, show (Int8.ofInt 25).toInt32 = Int32.ofNat 25 from rfl, show (Int8.ofInt 24).toInt32 = Int32.ofNat 24 from rfl, show (Int16.ofInt 480).toInt32 = Int32.ofNat 480 from rfl, show Int32.ofInt 1 = Int32.ofNat 1 from rfl]) <;> (try simp only [← Int32.ofNat_add, ← Int32.ofNat_mul]) <;> (try simp (disch := omega) only [q_cl, q_on, Nat.mul_zero, Nat.zero_mul, Nat.zero_add, Nat.add_zero, Nat.mul_one]) <;> (try simp only [Int32.lt_iff_toInt_lt, Int32.le_iff_toInt_le, ← Int32.toInt_inj, Int64.lt_iff_toInt_lt, Int64.le_iff_toInt_le, ← Int64.toInt_inj, ← Int32.toNat_toInt, mm_k0, mm_k1, mm_K0, mm_K1, mm_K2, Int32.toInt_toInt64, List.length_cons, List.length_nil, vp_updL, upd, ↓reduceIte, not_true_eq_false, not_false_eq_true, mm_x0, mm_K3]) <;> (try simp (disch := omega) only [q_on, q_cl]) <;> omega) | fail) ?_; conv => whnf)
    | (refine br_f (by first | decide | ((try simp only [lg_cmp_ge, lg_cmp_le, lg_cmp_gt, lg_cmp_lt, lg_cmp_eq]) <;> (try simp only [show (Int8.ofInt 40).toInt32 = Int32.ofNat 40 from rfl, show (Int8.ofInt 25).toInt32 = Int32.ofNat 25 from rfl, show (Int8.ofInt 24).toInt32 = Int32.ofNat 24 from rfl, show (Int16.ofInt 480).toInt32 = Int32.ofNat 480 from rfl, show Int32.ofInt 1 = Int32.ofNat 1 from rfl]) <;> (try simp only [← Int32.ofNat_add, ← Int32.ofNat_mul]) <;> (try simp (disch := omega) only [q_cl, q_on, Nat.mul_zero, Nat.zero_mul, Nat.zero_add, Nat.add_zero, Nat.mul_one]) <;> (try simp only [Int32.lt_iff_toInt_lt, Int32.le_iff_toInt_le, ← Int32.toInt_inj, Int64.lt_iff_toInt_lt, Int64.le_iff_toInt_le, ← Int64.toInt_inj, ← Int32.toNat_toInt, mm_k0, mm_k1, mm_K0, mm_K1, mm_K2, Int32.toInt_toInt64, List.length_cons, List.length_nil, vp_updL, upd, ↓reduceIte, not_true_eq_false, not_false_eq_true, mm_x0, mm_K3]) <;> (try simp (disch := omega) only [q_on, q_cl]) <;> omega) | fail) ?_; conv => whnf)
    | (refine And.intro (by first | decide | (unfold vp_in; decide) | ((try unfold vp_in) <;> (try simp only [lg_cmp_ge, lg_cmp_le, lg_cmp_gt, lg_cmp_lt, lg_cmp_eq]) <;> (try simp only [show (Int8.ofInt 40).toInt32 = Int32.ofNat 40 from rfl, show (Int8.ofInt 25).toInt32 = Int32.ofNat 25 from rfl, show (Int8.ofInt 24).toInt32 = Int32.ofNat 24 from rfl, show (Int16.ofInt 480).toInt32 = Int32.ofNat 480 from rfl, show Int32.ofInt 1 = Int32.ofNat 1 from rfl]) <;> (try simp only [← Int32.ofNat_add, ← Int32.ofNat_mul]) <;> (try simp (disch := omega) only [q_cl, q_on, Nat.mul_zero, Nat.zero_mul, Nat.zero_add, Nat.add_zero, Nat.mul_one]) <;> (try simp only [Int32.lt_iff_toInt_lt, Int32.le_iff_toInt_le, ← Int32.toInt_inj, Int64.lt_iff_toInt_lt, Int64.le_iff_toInt_le, ← Int64.toInt_inj, ← Int32.toNat_toInt, mm_k0, mm_k1, mm_K0, mm_K1, mm_K2, Int32.toInt_toInt64, List.length_cons, List.length_nil, vp_updL, upd, ↓reduceIte, not_true_eq_false, not_false_eq_true, mm_x0, mm_K3]) <;> (try simp (disch := omega) only [q_on, q_cl]) <;> omega) | fail) ?_; conv => whnf)
    | exact hQ _ _ (by omega) (by omega))
set_option maxRecDepth 100000 in
set_option maxHeartbeats 40000000 in
theorem k_19 {L : Nat} {xs : Nat → Int32} {d sl : Nat} {Q : mm_K} {a b c e z : Int32} (hQ : ∀ (f : Nat → Int32) (S : Nat), S = q_bn a + q_bn b + q_bn c + q_bn e + q_bn z → Q (.inl (some (.int (Int32.ofNat S)))) (tb_H ln lf sr ss sc gv r1 r2 kp wd tm fa R O W ax 0 (Int32.ofNat S) mr mfr mfa f mg mR mF mT m1 m2 m3 ou) sl) : mm_call tb_P L xs (d + 4) 19 [.ref 82, .int a, .int b, .int c, .int e, .int z] (tb_H ln lf sr ss sc gv r1 r2 kp wd tm fa R O W ax mt (Int32.ofNat 0) mr mfr mfa mf mg mR mF mT m1 m2 m3 ou) sl Q := by
  have a1 := q_bn_eq a
  have at24 := q_bt_le a 24
  have at16 := q_bt_le a 16
  have at8 := q_bt_le a 8
  have at0 := q_bt_le a 0
  have b1 := q_bn_eq b
  have bt24 := q_bt_le b 24
  have bt16 := q_bt_le b 16
  have bt8 := q_bt_le b 8
  have bt0 := q_bt_le b 0
  have c1 := q_bn_eq c
  have ct24 := q_bt_le c 24
  have ct16 := q_bt_le c 16
  have ct8 := q_bt_le c 8
  have ct0 := q_bt_le c 0
  have e1 := q_bn_eq e
  have et24 := q_bt_le e 24
  have et16 := q_bt_le e 16
  have et8 := q_bt_le e 8
  have et0 := q_bt_le e 0
  have z1 := q_bn_eq z
  have zt24 := q_bt_le z 24
  have zt16 := q_bt_le z 16
  have zt8 := q_bt_le z 8
  have zt0 := q_bt_le z 0
  refine mm_run (fun _ _ => false) (fun k => Nat.beq k 16) (fun F C hF hC => ?_)
  refine Exists.intro 1000 ?_
  conv => whnf
  repeat' (first
    | (refine br_t (by decide) ?_; conv => whnf)
    | (refine br_f (by decide) ?_; conv => whnf)
    | (refine hC _ _ _ _ _ _ (k_18 (s := 24) (by decide) (l := _) (by omega) (fun f => ?_)); conv => whnf)
    | (refine hC _ _ _ _ _ _ (k_18 (s := 16) (by decide) (l := _) (by omega) (fun f => ?_)); conv => whnf)
    | (refine hC _ _ _ _ _ _ (k_18 (s := 8) (by decide) (l := _) (by omega) (fun f => ?_)); conv => whnf)
    | (refine hC _ _ _ _ _ _ (k_18 (s := 0) (by decide) (l := _) (by omega) (fun f => ?_)); conv => whnf)
    | (refine Exists.intro 300 ?_; conv => whnf)
    | (refine br_t (by first | decide | ((try simp only [lg_cmp_ge, lg_cmp_le, lg_cmp_gt, lg_cmp_lt, lg_cmp_eq]) <;> (try simp only [show (Int8.ofInt 40).toInt32 = Int32.ofNat 40 from rfl, show (Int8.ofInt 25).toInt32 = Int32.ofNat 25 from rfl, show (Int8.ofInt 24).toInt32 = Int32.ofNat 24 from rfl, show (Int16.ofInt 480).toInt32 = Int32.ofNat 480 from rfl, show Int32.ofInt 1 = Int32.ofNat 1 from rfl]) <;> (try simp only [← Int32.ofNat_add, ← Int32.ofNat_mul]) <;> (try simp (disch := omega) only [q_cl, q_on, Nat.mul_zero, Nat.zero_mul, Nat.zero_add, Nat.add_zero, Nat.mul_one]) <;> (try simp only [Int32.lt_iff_toInt_lt, Int32.le_iff_toInt_le, ← Int32.toInt_inj, Int64.lt_iff_toInt_lt, Int64.le_iff_toInt_le, ← Int64.toInt_inj, ← Int32.toNat_toInt, mm_k0, mm_k1, mm_K0, mm_K1, mm_K2, Int32.toInt_toInt64, List.length_cons, List.length_nil, vp_updL, upd, ↓reduceIte, not_true_eq_false, not_false_eq_true, mm_x0, mm_K3]) <;> (try simp (disch := omega) only [q_on, q_cl]) <;> omega) | fail) ?_; conv => whnf)
    | (refine br_f (by first | decide | ((try simp only [lg_cmp_ge, lg_cmp_le, lg_cmp_gt, lg_cmp_lt, lg_cmp_eq]) <;> (try simp only [show (Int8.ofInt 40).toInt32 = Int32.ofNat 40 from rfl, show (Int8.ofInt 25).toInt32 = Int32.ofNat 25 from rfl, show (Int8.ofInt 24).toInt32 = Int32.ofNat 24 from rfl, show (Int16.ofInt 480).toInt32 = Int32.ofNat 480 from rfl, show Int32.ofInt 1 = Int32.ofNat 1 from rfl]) <;> (try simp only [← Int32.ofNat_add, ← Int32.ofNat_mul]) <;> (try simp (disch := omega) only [q_cl, q_on, Nat.mul_zero, Nat.zero_mul, Nat.zero_add, Nat.add_zero, Nat.mul_one]) <;> (try simp only [Int32.lt_iff_toInt_lt, Int32.le_iff_toInt_le, ← Int32.toInt_inj, Int64.lt_iff_toInt_lt, Int64.le_iff_toInt_le, ← Int64.toInt_inj, ← Int32.toNat_toInt, mm_k0, mm_k1, mm_K0, mm_K1, mm_K2, Int32.toInt_toInt64, List.length_cons, List.length_nil, vp_updL, upd, ↓reduceIte, not_true_eq_false, not_false_eq_true, mm_x0, mm_K3]) <;> (try simp (disch := omega) only [q_on, q_cl]) <;> omega) | fail) ?_; conv => whnf)
    | (refine And.intro (by first | decide | (unfold vp_in; decide) | ((try unfold vp_in) <;> (try simp only [lg_cmp_ge, lg_cmp_le, lg_cmp_gt, lg_cmp_lt, lg_cmp_eq]) <;> (try simp only [show (Int8.ofInt 40).toInt32 = Int32.ofNat 40 from rfl, show (Int8.ofInt 25).toInt32 = Int32.ofNat 25 from rfl, show (Int8.ofInt 24).toInt32 = Int32.ofNat 24 from rfl, show (Int16.ofInt 480).toInt32 = Int32.ofNat 480 from rfl, show Int32.ofInt 1 = Int32.ofNat 1 from rfl]) <;> (try simp only [← Int32.ofNat_add, ← Int32.ofNat_mul]) <;> (try simp (disch := omega) only [q_cl, q_on, Nat.mul_zero, Nat.zero_mul, Nat.zero_add, Nat.add_zero, Nat.mul_one]) <;> (try simp only [Int32.lt_iff_toInt_lt, Int32.le_iff_toInt_le, ← Int32.toInt_inj, Int64.lt_iff_toInt_lt, Int64.le_iff_toInt_le, ← Int64.toInt_inj, ← Int32.toNat_toInt, mm_k0, mm_k1, mm_K0, mm_K1, mm_K2, Int32.toInt_toInt64, List.length_cons, List.length_nil, vp_updL, upd, ↓reduceIte, not_true_eq_false, not_false_eq_true, mm_x0, mm_K3]) <;> (try simp (disch := omega) only [q_on, q_cl]) <;> omega) | fail) ?_; conv => whnf)
    | exact hQ _ _ (by omega))
end
set_option maxRecDepth 100000 in
set_option maxHeartbeats 40000000 in
theorem c_type {xs : Nat → Int32} : mm_wE tb_P 6 xs (mm_callE tb_P 6 xs 99) 0 375 136 tb_LS [] tb_G 159584 tb_Q := by
  rw [mm_wE_eq, mm_callE_eq]
  refine mm_on (fun k pc => false) (fun k => !(Nat.beq k 1 || Nat.beq k 19)) (fun F C hF hC => ?_)
  conv => whnf
  repeat' (first
    | exact rfl
    | (refine hC _ _ _ _ _ _ (k_1 (fun f S _ hS => ?_)); conv => whnf)
    | (refine hC _ _ _ _ _ _ (k_19 (fun f S' hS' => ?_)); (obtain rfl : S' = S := hS'.trans hS.symm); conv => whnf)
    | (refine br_f (fun h => h ((lg_cmp_eq _ _).mpr rfl)) ?_; conv => whnf)
    | (refine br_t ((lg_cmp_eq _ _).mpr rfl) ?_; conv => whnf)
    | (refine br_t (by first | decide | (((try simp only [lg_cmp_ge, lg_cmp_le, lg_cmp_gt, lg_cmp_lt, lg_cmp_eq]) <;> (try simp only [Int32.lt_iff_toInt_lt, Int32.le_iff_toInt_le, ← Int32.toInt_inj, Int64.lt_iff_toInt_lt, Int64.le_iff_toInt_le, ← Int64.toInt_inj, ← Int32.toNat_toInt, mm_k0, mm_k1, mm_K0, mm_K1, mm_K2, Int32.toInt_toInt64, List.length_cons, List.length_nil, vp_updL, upd, ↓reduceIte, not_true_eq_false, not_false_eq_true, mm_x0, mm_K3]) <;> omega)) | fail) ?_; conv => whnf)
    | (refine br_f (by first | decide | (((try simp only [lg_cmp_ge, lg_cmp_le, lg_cmp_gt, lg_cmp_lt, lg_cmp_eq]) <;> (try simp only [Int32.lt_iff_toInt_lt, Int32.le_iff_toInt_le, ← Int32.toInt_inj, Int64.lt_iff_toInt_lt, Int64.le_iff_toInt_le, ← Int64.toInt_inj, ← Int32.toNat_toInt, mm_k0, mm_k1, mm_K0, mm_K1, mm_K2, Int32.toInt_toInt64, List.length_cons, List.length_nil, vp_updL, upd, ↓reduceIte, not_true_eq_false, not_false_eq_true, mm_x0, mm_K3]) <;> omega)) | fail) ?_; conv => whnf)
    | (refine And.intro (by first | decide | (unfold vp_in; decide) | (((try unfold vp_in) <;> (try simp only [lg_cmp_ge, lg_cmp_le, lg_cmp_gt, lg_cmp_lt, lg_cmp_eq]) <;> (try simp only [Int32.lt_iff_toInt_lt, Int32.le_iff_toInt_le, ← Int32.toInt_inj, Int64.lt_iff_toInt_lt, Int64.le_iff_toInt_le, ← Int64.toInt_inj, ← Int32.toNat_toInt, mm_k0, mm_k1, mm_K0, mm_K1, mm_K2, Int32.toInt_toInt64, List.length_cons, List.length_nil, vp_updL, upd, ↓reduceIte, not_true_eq_false, not_false_eq_true, mm_x0, mm_K3]) <;> omega)) | fail) ?_; conv => whnf)
    | (refine Exists.intro 3000 ?_; conv => whnf)
    | (refine And.intro (fun h => absurd h (by first | decide | (((try simp only [lg_cmp_ge, lg_cmp_le, lg_cmp_gt, lg_cmp_lt, lg_cmp_eq]) <;> (try simp only [Int32.lt_iff_toInt_lt, Int32.le_iff_toInt_le, ← Int32.toInt_inj, Int64.lt_iff_toInt_lt, Int64.le_iff_toInt_le, ← Int64.toInt_inj, ← Int32.toNat_toInt, mm_k0, mm_k1, mm_K0, mm_K1, mm_K2, Int32.toInt_toInt64, List.length_cons, List.length_nil, vp_updL, upd, ↓reduceIte, not_true_eq_false, not_false_eq_true, mm_x0, mm_K3]) <;> omega)) | fail)) ?_; conv => whnf)
    | (refine And.intro (fun h => ?_) (fun h => ?_) <;> (try simp only [lg_cmp_ge, lg_cmp_le, lg_cmp_gt, lg_cmp_lt, lg_cmp_eq] at h) <;> (try simp only [Int32.lt_iff_toInt_lt, Int32.le_iff_toInt_le, ← Int32.toInt_inj, Int64.lt_iff_toInt_lt, Int64.le_iff_toInt_le, ← Int64.toInt_inj, ← Int32.toNat_toInt, mm_k0, mm_k1, mm_K0, mm_K1, mm_K2, Int32.toInt_toInt64, List.length_cons, List.length_nil, vp_updL, upd, ↓reduceIte, not_true_eq_false, not_false_eq_true, mm_x0, mm_K3] at h) <;> conv => whnf)
    | (refine And.intro (fun h => ?_) ?_ <;> (try simp only [lg_cmp_ge, lg_cmp_le, lg_cmp_gt, lg_cmp_lt, lg_cmp_eq] at h) <;> (try simp only [Int32.lt_iff_toInt_lt, Int32.le_iff_toInt_le, ← Int32.toInt_inj, Int64.lt_iff_toInt_lt, Int64.le_iff_toInt_le, ← Int64.toInt_inj, ← Int32.toNat_toInt, mm_k0, mm_k1, mm_K0, mm_K1, mm_K2, Int32.toInt_toInt64, List.length_cons, List.length_nil, vp_updL, upd, ↓reduceIte, not_true_eq_false, not_false_eq_true, mm_x0, mm_K3] at h) <;> conv => whnf)
    | exact trivial)

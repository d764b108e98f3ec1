/-! a loop in the form of whole: pushValue of the reference -/
def q_fill (f : Nat → Int64) (a n : Nat) (x : Int64) : Nat → Int64 := fun j => if a ≤ j ∧ j < a + n then x else f j
theorem q_fill_0 (f : Nat → Int64) (a : Nat) (x : Int64) : q_fill f a 0 x = f := by
  funext j
  unfold q_fill
  rw [if_neg (by omega)]
theorem q_fill_step {f : Nat → Int64} {a n k : Nat} {x : Int64} (e : k = a + n) : vp_updL (q_fill f a n x) k x = q_fill f a (n + 1) x := by
  subst e
  funext j
  unfold vp_updL q_fill
  by_cases h : j = a + n
  · rw [if_pos h, if_pos (by omega)]
  · rw [if_neg h]
    by_cases h2 : a ≤ j ∧ j < a + n
    · rw [if_pos h2, if_pos (by omega)]
    · rw [if_neg h2, if_neg (by omega)]
section
variable {A : Nat → Nat → Int32} {L : Nat → Nat → Int64} {R : Nat → Nat → Option Nat} {V : Nat → Nat → Int32} {Y : Nat → Nat → Int64} {U : Nat → Nat → Value} {ex : List va_E} {eX : Nat → Nat × (Nat → Int32)} {d sl : Nat} {Q : mm_K}
set_option maxRecDepth 100000 in
set_option maxHeartbeats 40000000 in
theorem lp_pv {t : Nat} {x : Int32} (ht : V 81 83 = Int32.ofNat t) (h3 : t < 300) (hx : vp_nar .boolean x = x) (hQ : Q (.inl none) (tb_H (va_up A 139 (upd (A 139) t x)) (va_up L 138 (q_fill (L 138) (25 * t) 25 0)) R (va_up V 81 (va_up (V 81) 83 (Int32.ofNat (t + 1)))) Y U ++ ex) sl) : ∀ (s i N : Nat), i + s = 25 → 60 * s + 60 ≤ N → mm_w tb_P eX (mm_call tb_P eX d) 81 N 2 [(2, .int (Int32.ofNat i)), (0, .ref 82), (1, .int x)] [] (tb_H A (va_up L 138 (q_fill (L 138) (25 * t) i 0)) R V Y U ++ ex) sl Q
  | 0, i, N, hi, hN => by
    obtain ⟨N', rfl⟩ : ∃ N', N = N' + 60 := ⟨N - 60, by omega⟩
    obtain rfl : i = 25 := by omega
    refine mm_on false (fun k pc => Nat.beq k 81 && Nat.beq pc 2) (fun _ => false) (fun F C hF hC => ?_)
    conv => whnf
    refine br_t (by first | decide | ((try simp only [lg_cmp_ge, lg_cmp_le, lg_cmp_gt, lg_cmp_lt, lg_cmp_eq]) <;> (try simp only [show (Int8.ofInt 25).toInt32 = Int32.ofNat 25 from rfl, show Int32.ofInt 1 = Int32.ofNat 1 from rfl, show Int32.ofInt 0 = Int32.ofNat 0 from rfl, show (0 : Int32) = Int32.ofNat 0 from rfl, show (1 : Int32) = Int32.ofNat 1 from rfl]) <;> (try simp only [← Int32.ofNat_add, ← Int32.ofNat_mul]) <;> (try simp (disch := omega) only [q_cl, q_on, Nat.mul_zero, Nat.zero_mul, Nat.zero_add, Nat.add_zero, Nat.mul_one]) <;> (try simp only [Int32.lt_iff_toInt_lt, Int32.le_iff_toInt_le, ← Int32.toInt_inj, Int64.lt_iff_toInt_lt, Int64.le_iff_toInt_le, ← Int64.toInt_inj, ← Int32.toNat_toInt, mm_k0, mm_k1, mm_K0, mm_K1, mm_K2, Int32.toInt_toInt64, List.length_cons, List.length_nil, vp_updL, upd, ↓reduceIte, not_true_eq_false, not_false_eq_true, mm_x0, mm_K3]) <;> (try simp (disch := omega) only [q_on, q_cl]) <;> omega) | fail) ?_
    conv => whnf
    refine And.intro (by first | decide | (unfold vp_in; decide) | ((try unfold vp_in) <;> (try simp only [lg_cmp_ge, lg_cmp_le, lg_cmp_gt, lg_cmp_lt, lg_cmp_eq, ht]) <;> (try simp only [show (Int8.ofInt 25).toInt32 = Int32.ofNat 25 from rfl, show Int32.ofInt 1 = Int32.ofNat 1 from rfl, show Int32.ofInt 0 = Int32.ofNat 0 from rfl, show (0 : Int32) = Int32.ofNat 0 from rfl, show (1 : Int32) = Int32.ofNat 1 from rfl]) <;> (try simp only [← Int32.ofNat_add, ← Int32.ofNat_mul]) <;> (try simp (disch := omega) only [q_cl, q_on, Nat.mul_zero, Nat.zero_mul, Nat.zero_add, Nat.add_zero, Nat.mul_one]) <;> (try simp only [Int32.lt_iff_toInt_lt, Int32.le_iff_toInt_le, ← Int32.toInt_inj, Int64.lt_iff_toInt_lt, Int64.le_iff_toInt_le, ← Int64.toInt_inj, ← Int32.toNat_toInt, mm_k0, mm_k1, mm_K0, mm_K1, mm_K2, Int32.toInt_toInt64, List.length_cons, List.length_nil, vp_updL, upd, ↓reduceIte, not_true_eq_false, not_false_eq_true, mm_x0, mm_K3]) <;> (try simp (disch := omega) only [q_on, q_cl]) <;> omega) | fail) ?_
    conv => whnf
    have e1 : (V 81 83).toNatClampNeg = t := by rw [ht]; exact q_cl (by omega)
    have e2 : V 81 83 + Int32.ofInt 1 = Int32.ofNat (t + 1) := by rw [ht, q_inc]
    have hQ2 : Q (.inl none) (tb_H (va_up A 139 (upd (A 139) (V 81 83).toNatClampNeg (vp_nar .boolean x))) (va_up L 138 (q_fill (L 138) (25 * t) 25 0)) R (va_up V 81 (va_up (V 81) 83 (V 81 83 + Int32.ofInt 1))) Y U ++ ex) sl := by
      rw [hx, e1, e2]
      exact hQ
    exact hQ2
  | s + 1, i, N, hi, hN => by
    obtain ⟨N', rfl⟩ : ∃ N', N = N' + 60 := ⟨N - 60, by omega⟩
    refine mm_on false (fun k pc => Nat.beq k 81 && Nat.beq pc 2) (fun _ => false) (fun F C hF hC => ?_)
    conv => whnf
    refine br_f (by first | decide | ((try simp only [lg_cmp_ge, lg_cmp_le, lg_cmp_gt, lg_cmp_lt, lg_cmp_eq]) <;> (try simp only [show (Int8.ofInt 25).toInt32 = Int32.ofNat 25 from rfl, show Int32.ofInt 1 = Int32.ofNat 1 from rfl, show Int32.ofInt 0 = Int32.ofNat 0 from rfl, show (0 : Int32) = Int32.ofNat 0 from rfl, show (1 : Int32) = Int32.ofNat 1 from rfl]) <;> (try simp only [← Int32.ofNat_add, ← Int32.ofNat_mul]) <;> (try simp (disch := omega) only [q_cl, q_on, Nat.mul_zero, Nat.zero_mul, Nat.zero_add, Nat.add_zero, Nat.mul_one]) <;> (try simp only [Int32.lt_iff_toInt_lt, Int32.le_iff_toInt_le, ← Int32.toInt_inj, Int64.lt_iff_toInt_lt, Int64.le_iff_toInt_le, ← Int64.toInt_inj, ← Int32.toNat_toInt, mm_k0, mm_k1, mm_K0, mm_K1, mm_K2, Int32.toInt_toInt64, List.length_cons, List.length_nil, vp_updL, upd, ↓reduceIte, not_true_eq_false, not_false_eq_true, mm_x0, mm_K3]) <;> (try simp (disch := omega) only [q_on, q_cl]) <;> omega) | fail) ?_
    conv => whnf
    refine And.intro (by first | decide | (unfold vp_in; decide) | ((try unfold vp_in) <;> (try simp only [lg_cmp_ge, lg_cmp_le, lg_cmp_gt, lg_cmp_lt, lg_cmp_eq, ht]) <;> (try simp only [show (Int8.ofInt 25).toInt32 = Int32.ofNat 25 from rfl, show Int32.ofInt 1 = Int32.ofNat 1 from rfl, show Int32.ofInt 0 = Int32.ofNat 0 from rfl, show (0 : Int32) = Int32.ofNat 0 from rfl, show (1 : Int32) = Int32.ofNat 1 from rfl]) <;> (try simp only [← Int32.ofNat_add, ← Int32.ofNat_mul]) <;> (try simp (disch := omega) only [q_cl, q_on, Nat.mul_zero, Nat.zero_mul, Nat.zero_add, Nat.add_zero, Nat.mul_one]) <;> (try simp only [Int32.lt_iff_toInt_lt, Int32.le_iff_toInt_le, ← Int32.toInt_inj, Int64.lt_iff_toInt_lt, Int64.le_iff_toInt_le, ← Int64.toInt_inj, ← Int32.toNat_toInt, mm_k0, mm_k1, mm_K0, mm_K1, mm_K2, Int32.toInt_toInt64, List.length_cons, List.length_nil, vp_updL, upd, ↓reduceIte, not_true_eq_false, not_false_eq_true, mm_x0, mm_K3]) <;> (try simp (disch := omega) only [q_on, q_cl]) <;> omega) | fail) ?_
    conv => whnf
    have ih := lp_pv ht h3 hx hQ s (i + 1) N' (by omega) (by omega)
    have e : q_fill (L 138) (25 * t) (i + 1) 0 = vp_updL (q_fill (L 138) (25 * t) i 0) ((Int8.ofInt 25).toInt32 * V 81 83 + Int32.ofNat i).toNatClampNeg 0 := (q_fill_step (by (try simp only [ht]) <;> (try simp only [show (Int8.ofInt 25).toInt32 = Int32.ofNat 25 from rfl, show Int32.ofInt 1 = Int32.ofNat 1 from rfl, show Int32.ofInt 0 = Int32.ofNat 0 from rfl, show (0 : Int32) = Int32.ofNat 0 from rfl, show (1 : Int32) = Int32.ofNat 1 from rfl]) <;> (try simp only [← Int32.ofNat_add, ← Int32.ofNat_mul]) <;> (try simp (disch := omega) only [q_cl, q_on, Nat.mul_zero, Nat.zero_mul, Nat.zero_add, Nat.add_zero, Nat.mul_one]) <;> first | rfl | omega | fail)).symm
    rw [e, ← q_inc] at ih
    exact hF _ _ _ _ _ _ _ _ _ (mm_more ih (Nat.le_add_right N' _) rfl ⟨rfl, rfl, rfl, trivial⟩)
end

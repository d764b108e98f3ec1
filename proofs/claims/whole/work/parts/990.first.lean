/-! first contracts in the form of whole: the cells by functions -/
section
variable {A : Nat → Nat → Int32} {L : Nat → Nat → Int64} {R : Nat → Nat → Option Nat} {V : Nat → Nat → Int32} {Y : Nat → Nat → Int64} {U : Nat → Nat → Value} {ex : List va_E} {eX : Nat → Nat × (Nat → Int32)} {d sl : Nat} {Q : mm_K}
set_option maxRecDepth 100000 in
set_option maxHeartbeats 40000000 in
theorem k_312 {x v : Int32} (h1 : 0 ≤ x.toInt) (h2 : x.toInt < 6) (hQ : Q (.inl none) (tb_H (va_up (va_up A 43 (upd (A 43) x.toNatClampNeg 0)) 44 (upd (A 44) x.toNatClampNeg v)) L R V Y U ++ ex) sl) : mm_call tb_P eX (d + 2) 312 [.ref 43, .int x, .int v] (tb_H A L R V Y U ++ ex) sl Q := by
  refine mm_run false (fun _ _ => false) (fun _ => true) (fun F C hF hC => ?_)
  refine Exists.intro 100 ?_
  conv => whnf
  repeat' (first
    | exact hQ
    | (refine br_t (by first | decide | ((try simp only [lg_cmp_ge, lg_cmp_le, lg_cmp_gt, lg_cmp_lt, lg_cmp_eq]) <;> (try simp only [Int32.lt_iff_toInt_lt, Int32.le_iff_toInt_le, ← Int32.toInt_inj, Int64.lt_iff_toInt_lt, Int64.le_iff_toInt_le, ← Int64.toInt_inj, ← Int32.toNat_toInt, mm_k0, mm_k1, mm_K0, mm_K1, mm_K2, Int32.toInt_toInt64, List.length_cons, List.length_nil, vp_updL, upd, ↓reduceIte, not_true_eq_false, not_false_eq_true, mm_x0, mm_K3]) <;> omega) | fail) ?_; conv => whnf)
    | (refine br_f (by first | decide | ((try simp only [lg_cmp_ge, lg_cmp_le, lg_cmp_gt, lg_cmp_lt, lg_cmp_eq]) <;> (try simp only [Int32.lt_iff_toInt_lt, Int32.le_iff_toInt_le, ← Int32.toInt_inj, Int64.lt_iff_toInt_lt, Int64.le_iff_toInt_le, ← Int64.toInt_inj, ← Int32.toNat_toInt, mm_k0, mm_k1, mm_K0, mm_K1, mm_K2, Int32.toInt_toInt64, List.length_cons, List.length_nil, vp_updL, upd, ↓reduceIte, not_true_eq_false, not_false_eq_true, mm_x0, mm_K3]) <;> omega) | fail) ?_; conv => whnf)
    | (refine And.intro (by first | decide | (unfold vp_in; decide) | ((try unfold vp_in) <;> (try simp only [lg_cmp_ge, lg_cmp_le, lg_cmp_gt, lg_cmp_lt, lg_cmp_eq]) <;> (try simp only [Int32.lt_iff_toInt_lt, Int32.le_iff_toInt_le, ← Int32.toInt_inj, Int64.lt_iff_toInt_lt, Int64.le_iff_toInt_le, ← Int64.toInt_inj, ← Int32.toNat_toInt, mm_k0, mm_k1, mm_K0, mm_K1, mm_K2, Int32.toInt_toInt64, List.length_cons, List.length_nil, vp_updL, upd, ↓reduceIte, not_true_eq_false, not_false_eq_true, mm_x0, mm_K3]) <;> omega) | fail) ?_; conv => whnf)
    | (refine Exists.intro 100 ?_; conv => whnf))
set_option maxRecDepth 100000 in
set_option maxHeartbeats 40000000 in
theorem k_19 (hQ : Q (.inl (some (.int (V 81 2)))) (tb_H A L R (va_up V 81 (va_up (va_up (V 81) 0 0) 2 0)) Y U ++ ex) sl) : mm_call tb_P eX (d + 1) 19 [.ref 82] (tb_H A L R V Y U ++ ex) sl Q := by
  refine mm_run false (fun _ _ => false) (fun _ => true) (fun F C hF hC => ?_)
  refine Exists.intro 100 ?_
  conv => whnf
  exact hQ
end

/-! A ROW of whole numbers r says of v that r 0 + r 1 * v 1 + .. + r n * v n is not below 0: what the solver does to rows keeps that. -/
def s_sum (r v : Nat → Int) : Nat → Int
  | 0 => 0
  | n + 1 => s_sum r v n + r (n + 1) * v (n + 1)
def s_val (n : Nat) (r v : Nat → Int) : Int := r 0 + s_sum r v n
theorem s_sum_congr {r t v : Nat → Int} : ∀ {n : Nat}, (∀ k, 1 ≤ k → k ≤ n → r k = t k) → s_sum r v n = s_sum t v n
  | 0, _ => rfl
  | n + 1, h => by
    unfold s_sum
    rw [s_sum_congr (n := n) (fun k h1 h2 => h k h1 (by omega)), h (n + 1) (by omega) (by omega)]
theorem s_sum_lin {r t v : Nat → Int} (a b : Int) : ∀ n : Nat, s_sum (fun k => a * r k + b * t k) v n = a * s_sum r v n + b * s_sum t v n
  | 0 => by simp [s_sum]
  | n + 1 => by
    unfold s_sum
    rw [s_sum_lin a b n]
    simp only [Int.add_mul, Int.mul_add, Int.mul_assoc]
    omega
theorem s_val_congr {r t v : Nat → Int} {n : Nat} (h : ∀ k, k ≤ n → r k = t k) : s_val n r v = s_val n t v := by
  unfold s_val
  rw [h 0 (Nat.zero_le n), s_sum_congr (fun k _ h2 => h k h2)]
/-- two rows, each times a number that is not below 0 -/
theorem s_comb {r t v : Nat → Int} {n : Nat} {a b : Int} (ha : 0 ≤ a) (hb : 0 ≤ b) (h1 : 0 ≤ s_val n r v) (h2 : 0 ≤ s_val n t v) : 0 ≤ s_val n (fun k => a * r k + b * t k) v := by
  have e : s_val n (fun k => a * r k + b * t k) v = a * s_val n r v + b * s_val n t v := by
    unfold s_val
    rw [s_sum_lin a b n, Int.mul_add, Int.mul_add]
    show a * r 0 + b * t 0 + (a * s_sum r v n + b * s_sum t v n) = _
    omega
  rw [e]
  have := Int.mul_nonneg ha h1
  have := Int.mul_nonneg hb h2
  omega
/-- a variable that isn't there -/
theorem s_drop {r v : Nat → Int} {n : Nat} (h : r (n + 1) = 0) : s_val (n + 1) r v = s_val n r v := by
  unfold s_val
  show r 0 + (s_sum r v n + r (n + 1) * v (n + 1)) = _
  rw [h, Int.zero_mul, Int.add_zero]
/-- tightened by a divisor of all but the number that stands alone -/
theorem s_tight {r v : Nat → Int} {n : Nat} {g : Int} (hg : 0 < g) (hd : ∀ k, 1 ≤ k → k ≤ n → g ∣ r k) (h : 0 ≤ s_val n r v) : 0 ≤ s_val n (fun k => r k / g) v := by
  have e : ∀ m, m ≤ n → s_sum r v m = g * s_sum (fun k => r k / g) v m := by
    intro m
    induction m with
    | zero => intro _; simp [s_sum]
    | succ m ih =>
      intro hm
      unfold s_sum
      rw [ih (by omega), Int.mul_add, ← Int.mul_assoc]
      have := Int.mul_ediv_cancel' (hd (m + 1) (by omega) hm)
      rw [this]
  unfold s_val at h ⊢
  rw [e n (Nat.le_refl n)] at h
  generalize s_sum (fun k => r k / g) v n = S at h
  have h1 := Int.mul_ediv_add_emod (r 0) g
  have h2 := Int.emod_lt_of_pos (r 0) hg
  have h3 : -g < g * (r 0 / g + S) := by
    rw [Int.mul_add]
    omega
  have h4 : -1 < r 0 / g + S := by
    refine Int.lt_of_mul_lt_mul_left (a := g) ?_ (Int.le_of_lt hg)
    omega
  show 0 ≤ r 0 / g + S
  omega
/-- of two alike ones the less -/
theorem s_min {r t v : Nat → Int} {n : Nat} (he : ∀ k, 1 ≤ k → k ≤ n → r k = t k) (h1 : 0 ≤ s_val n r v) (h2 : 0 ≤ s_val n t v) : 0 ≤ s_val n (fun k => if k = 0 then min (r 0) (t 0) else r k) v := by
  unfold s_val at *
  rw [s_sum_congr (t := r) (fun k hk _ => if_neg (by omega))]
  rw [← s_sum_congr he] at h2
  show 0 ≤ min (r 0) (t 0) + s_sum r v n
  omega
/-- the contrary of a goal -/
theorem s_neg {r v : Nat → Int} {n : Nat} (h : ¬ 0 ≤ s_val n r v) : 0 ≤ s_val n (fun k => if k = 0 then -r 0 - 1 else -r k) v := by
  unfold s_val at *
  have e : s_sum (fun k => if k = 0 then -r 0 - 1 else -r k) v n = -s_sum r v n := by
    rw [s_sum_congr (t := fun k => (-1) * r k + 0 * r k) (fun k hk _ => by rw [if_neg (by omega)]; omega), s_sum_lin]
    omega
  rw [e]
  show 0 ≤ -r 0 - 1 + -s_sum r v n
  omega
/-- a row without variables that is below 0 says what isn't -/
theorem s_false {r v : Nat → Int} {n : Nat} (hz : ∀ k, 1 ≤ k → k ≤ n → r k = 0) (h0 : r 0 < 0) : ¬ 0 ≤ s_val n r v := by
  unfold s_val
  have e : s_sum r v n = 0 := by
    rw [s_sum_congr (t := fun k => 0 * r k + 0 * r k) (fun k h1 h2 => by rw [hz k h1 h2]; rfl), s_sum_lin]
    omega
  rw [e]
  omega

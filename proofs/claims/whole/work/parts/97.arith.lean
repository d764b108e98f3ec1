/-! ARITHMETIC of ints and longs without a wrap; bits; Euclid. -/
theorem q_add32 {a b : Int32} (h1 : -2147483648 ≤ a.toInt + b.toInt) (h2 : a.toInt + b.toInt ≤ 2147483647) : (a + b).toInt = a.toInt + b.toInt := by
  rw [Int32.toInt_add]
  exact Int.bmod_eq_of_le_mul_two (by omega) (by omega)
theorem q_mul32 {a b : Int32} (h1 : -2147483648 ≤ a.toInt * b.toInt) (h2 : a.toInt * b.toInt ≤ 2147483647) : (a * b).toInt = a.toInt * b.toInt := by
  rw [Int32.toInt_mul]
  exact Int.bmod_eq_of_le_mul_two (by omega) (by omega)
theorem q_add64 {a b : Int64} (h1 : -9223372036854775808 ≤ a.toInt + b.toInt) (h2 : a.toInt + b.toInt ≤ 9223372036854775807) : (a + b).toInt = a.toInt + b.toInt := by
  rw [Int64.toInt_add]
  exact Int.bmod_eq_of_le_mul_two (by omega) (by omega)
theorem q_sub64 {a b : Int64} (h1 : -9223372036854775808 ≤ a.toInt - b.toInt) (h2 : a.toInt - b.toInt ≤ 9223372036854775807) : (a - b).toInt = a.toInt - b.toInt := by
  rw [Int64.toInt_sub]
  exact Int.bmod_eq_of_le_mul_two (by omega) (by omega)
theorem q_mul64 {a b : Int64} (h1 : -9223372036854775808 ≤ a.toInt * b.toInt) (h2 : a.toInt * b.toInt ≤ 9223372036854775807) : (a * b).toInt = a.toInt * b.toInt := by
  rw [Int64.toInt_mul]
  exact Int.bmod_eq_of_le_mul_two (by omega) (by omega)
theorem q_neg64 {a : Int64} (h : -9223372036854775808 < a.toInt) : (-a).toInt = -a.toInt := by
  rw [Int64.toInt_neg]
  have := a.toInt_lt
  exact Int.bmod_eq_of_le_mul_two (by omega) (by omega)
theorem q_div64 {a b : Int64} (h : -9223372036854775808 < a.toInt) : (a / b).toInt = a.toInt.tdiv b.toInt := by
  refine Int64.toInt_div_of_ne_left _ _ (fun h' => ?_)
  subst h'
  exact absurd h (by decide)
theorem q_rem64 {a b : Int64} (h1 : 0 ≤ a.toInt) (h2 : 0 < b.toInt) : (a - a / b * b).toInt = a.toInt % b.toInt := by
  have ha := a.toInt_lt
  have h3 : (a / b).toInt = a.toInt / b.toInt := by rw [q_div64 (by omega), Int.tdiv_eq_ediv_of_nonneg h1]
  have h4 : a.toInt / b.toInt * b.toInt + a.toInt % b.toInt = a.toInt := Int.ediv_mul_add_emod a.toInt b.toInt
  have h5 := Int.emod_nonneg a.toInt (b := b.toInt) (by omega)
  have h6 : 0 ≤ a.toInt / b.toInt * b.toInt := Int.mul_nonneg (Int.ediv_nonneg h1 (by omega)) (by omega)
  have h7 : (a / b * b).toInt = a.toInt / b.toInt * b.toInt := by
    rw [q_mul64 (by rw [h3]; omega) (by rw [h3]; omega), h3]
  rw [q_sub64 (by rw [h7]; omega) (by rw [h7]; omega), h7]
  omega
theorem q_on {n : Nat} (h : n < 2147483648) : (Int32.ofNat n).toInt = (n : Int) := Int32.toInt_ofNat_of_lt (by omega)
theorem q_cl {n : Nat} (h : n < 2147483648) : (Int32.ofNat n).toNatClampNeg = n := by
  have := q_on h
  rw [← Int32.toNat_toInt, this]
  rfl
theorem q_inc (n : Nat) : Int32.ofNat n + Int32.ofInt 1 = Int32.ofNat (n + 1) := by
  rw [Int32.ofNat_add]; rfl
theorem q_of {x : Int32} (h : 0 ≤ x.toInt) : ∃ n, x = Int32.ofNat n ∧ n < 2147483648 ∧ x.toInt = (n : Int) := by
  have h1 := x.toInt_lt
  refine ⟨x.toInt.toNat, ?_, by omega, by omega⟩
  rw [← Int32.toInt_inj, q_on (by omega)]
  omega
def q_E : Nat → Nat → Nat → Prop
  | 0, _, y => y = 0
  | t + 1, x, y => y = 0 ∨ q_E t y (x % y)
theorem q_E_up : ∀ {t x y : Nat}, q_E t x y → q_E (t + 1) x y
  | 0, _, _, h => .inl h
  | _ + 1, _, _, h => h.elim .inl (fun h => .inr (q_E_up h))
theorem q_E_le : ∀ (m x y : Nat), y ≤ x → x * y < 2 ^ m → q_E m x y
  | 0, x, y, h1, h2 => by
    have h3 : x * y < 1 := h2
    have h4 : x * y = 0 := by omega
    rcases Nat.mul_eq_zero.mp h4 with h | h
    · show y = 0
      omega
    · exact h
  | m + 1, x, y, h1, h2 => by
    by_cases hy : y = 0
    · exact .inl hy
    · have hl := Nat.mod_lt x (Nat.pos_of_ne_zero hy)
      refine .inr (q_E_le m y (x % y) (by omega) ?_)
      have h3 : y ≤ y * (x / y) := Nat.le_mul_of_pos_right _ (Nat.div_pos h1 (by omega))
      have h4 := Nat.div_add_mod x y
      have h5 : 2 * (x % y) < x := by omega
      have h6 : y * (2 * (x % y)) < y * x := Nat.mul_lt_mul_of_pos_left h5 (by omega)
      have h7 : y * (2 * (x % y)) = 2 * (y * (x % y)) := by ac_rfl
      have h8 : y * x = x * y := Nat.mul_comm _ _
      have h9 : (2 : Nat) ^ (m + 1) = 2 * 2 ^ m := by rw [Nat.pow_succ]; omega
      omega
theorem q_E_all {x y : Nat} (hx : x ≤ 1000) (hy : y ≤ 1000) : q_E 21 x y := by
  have hp : ∀ a b : Nat, a ≤ 1000 → b ≤ 1000 → a * b < 2 ^ 20 := by
    intro a b ha hb
    have := Nat.mul_le_mul ha hb
    have h2 : (2 : Nat) ^ 20 = 1048576 := rfl
    omega
  by_cases h : y ≤ x
  · exact q_E_up (q_E_le 20 x y h (hp x y hx hy))
  · refine .inr ?_
    rw [Nat.mod_eq_of_lt (by omega)]
    exact q_E_le 20 y x (by omega) (hp y x hy hx)
/-- the greatest common divisor of the first n -/
def q_gs (W : Nat → Int64) : Nat → Nat
  | 0 => 0
  | n + 1 => Nat.gcd (q_gs W n) (W n).toInt.natAbs
theorem q_gs_dvd {W : Nat → Int64} : ∀ {n j : Nat}, j < n → (q_gs W n : Int) ∣ (W j).toInt
  | n + 1, j, h => by
    have h1 : q_gs W (n + 1) = Nat.gcd (q_gs W n) (W n).toInt.natAbs := rfl
    by_cases hj : j = n
    · subst hj
      rw [h1]
      exact Int.ofNat_dvd_left.mpr (Nat.gcd_dvd_right _ _)
    · have h2 := q_gs_dvd (W := W) (n := n) (j := j) (by omega)
      rw [h1]
      exact Int.dvd_trans (Int.natCast_dvd_natCast.mpr (Nat.gcd_dvd_left _ _)) h2
theorem q_gs_zero {W : Nat → Int64} : ∀ {n : Nat}, q_gs W n = 0 → ∀ j, j < n → (W j).toInt = 0
  | n + 1, h, j, hj => by
    have h1 : Nat.gcd (q_gs W n) (W n).toInt.natAbs = 0 := h
    have h2 := Nat.gcd_eq_zero_iff.mp h1
    by_cases hjn : j = n
    · subst hjn
      omega
    · exact q_gs_zero h2.1 j (by omega)
theorem q_gs_zero' {W : Nat → Int64} : ∀ {n : Nat}, (∀ j, j < n → (W j).toInt = 0) → q_gs W n = 0
  | 0, _ => rfl
  | n + 1, h => by
    show Nat.gcd (q_gs W n) (W n).toInt.natAbs = 0
    rw [q_gs_zero' (fun j hj => h j (by omega)), h n (by omega)]
    rfl
theorem q_gs_le {W : Nat → Int64} {B : Nat} : ∀ n : Nat, (∀ j, j < n → (W j).toInt.natAbs ≤ B) → q_gs W n ≤ B
  | 0, _ => Nat.zero_le _
  | n + 1, hB => by
    show Nat.gcd (q_gs W n) (W n).toInt.natAbs ≤ B
    by_cases h : (W n).toInt.natAbs = 0
    · rw [h, Nat.gcd_zero_right]
      exact q_gs_le n (fun j hj => hB j (by omega))
    · exact Nat.le_trans (Nat.le_of_dvd (by omega) (Nat.gcd_dvd_right _ _)) (hB n (by omega))
theorem q_gs_one {W : Nat → Int64} {n : Nat} (h : q_gs W n = 1) : ∀ m, q_gs W (n + m) = 1
  | 0 => h
  | m + 1 => by
    show Nat.gcd (q_gs W (n + m)) _ = 1
    rw [q_gs_one h m, Nat.gcd_one_left]
theorem q_div_abs {x g : Int64} (hx : -9223372036854775808 < x.toInt) : (x / g).toInt.natAbs ≤ x.toInt.natAbs := by
  rw [q_div64 hx, Int.natAbs_tdiv]
  exact Nat.div_le_self _ _
theorem q_div_zero {x g : Int64} (hg : 0 < g.toInt) (hd : g.toInt ∣ x.toInt) (hx : -9223372036854775808 < x.toInt) : (x / g).toInt = 0 ↔ x.toInt = 0 := by
  rw [q_div64 hx]
  obtain ⟨c, hc⟩ := hd
  rw [hc, Int.mul_tdiv_cancel_left _ (by omega)]
  constructor
  · rintro rfl
    exact Int.mul_zero _
  · intro h
    rcases Int.mul_eq_zero.mp h with h | h
    · omega
    · exact h
theorem q_bits (x : BitVec 32) (s : Nat) (hs : s ≤ 24) : (x >>> s) &&& 255#32 = (x.sshiftRight s) &&& 255#32 := by
  apply BitVec.eq_of_getLsbD_eq
  intro i hi
  rw [BitVec.getLsbD_and, BitVec.getLsbD_and, BitVec.getLsbD_ushiftRight, BitVec.getLsbD_sshiftRight]
  by_cases h8 : i < 8
  · have h1 : s + i < 32 := by omega
    have h2 : ¬ 32 ≤ i := by omega
    simp [hi, h1, h2]
  · have : (255#32).getLsbD i = false := by
      rw [show (255#32) = BitVec.ofNat 32 255 from rfl, BitVec.getLsbD_ofNat]
      have : Nat.testBit 255 i = false := by
        apply Nat.testBit_lt_two_pow
        exact Nat.lt_of_lt_of_le (by decide : 255 < 2 ^ 8) (Nat.pow_le_pow_right (by omega) (by omega))
      simp [this]
    rw [this]
    simp
theorem q_sh (x : Int32) (s : Int32) (h : s = 24 ∨ s = 16 ∨ s = 8 ∨ s = 0) : (x.toUInt32 >>> (s.toUInt32 &&& Int32.toUInt32 31)).toInt32 &&& 255 = (x >>> (s &&& 31)) &&& 255 := by
  rw [← Int32.toBitVec_inj]
  rcases h with rfl | rfl | rfl | rfl
  · exact q_bits x.toBitVec 24 (by omega)
  · exact q_bits x.toBitVec 16 (by omega)
  · exact q_bits x.toBitVec 8 (by omega)
  · exact q_bits x.toBitVec 0 (by omega)
theorem q_255 (x : Int32) : 0 ≤ (x &&& 255).toInt ∧ (x &&& 255).toInt ≤ 255 := by
  have h : (x &&& 255).toBitVec = x.toBitVec &&& 255#32 := rfl
  have h1 : (x &&& 255).toInt = (x.toBitVec &&& 255#32).toInt := by rw [← h]; rfl
  have h2 : (x.toBitVec &&& 255#32).toNat ≤ 255 := by
    rw [BitVec.toNat_and]
    exact Nat.and_le_right
  rw [h1, BitVec.toInt_eq_toNat_of_lt (by omega)]
  omega
def q_bt (x s : Int32) : Nat := if x >>> (s &&& 31) &&& 255 = 0 then 0 else 1
def q_bn (x : Int32) : Nat := q_bt x 24 + q_bt x 16 + q_bt x 8 + q_bt x 0
theorem q_bt_le (x s : Int32) : q_bt x s ≤ 1 := by
  unfold q_bt
  split <;> omega
theorem q_bn_eq (x : Int32) : q_bn x = q_bt x 24 + q_bt x 16 + q_bt x 8 + q_bt x 0 := rfl
theorem q_bn_le (x : Int32) : q_bn x ≤ 4 := by
  have h1 := q_bt_le x 24
  have h2 := q_bt_le x 16
  have h3 := q_bt_le x 8
  have h4 := q_bt_le x 0
  have h5 := q_bn_eq x
  omega
theorem q_u0 {x s s' c : Int32} (hs : s' = s) (h4 : s = 24 ∨ s = 16 ∨ s = 8 ∨ s = 0) (hc : c = 255) (h : (x.toUInt32 >>> (s'.toUInt32 &&& Int32.toUInt32 31)).toInt32 &&& c = 0) : q_bt x s = 0 := by
  subst hs hc
  rw [q_sh x s' h4] at h
  unfold q_bt
  rw [if_pos h]
theorem q_u1 {x s s' c : Int32} (hs : s' = s) (h4 : s = 24 ∨ s = 16 ∨ s = 8 ∨ s = 0) (hc : c = 255) (h : ¬ (x.toUInt32 >>> (s'.toUInt32 &&& Int32.toUInt32 31)).toInt32 &&& c = 0) : q_bt x s = 1 := by
  subst hs hc
  rw [q_sh x s' h4] at h
  unfold q_bt
  rw [if_neg h]
theorem q_a0 {x s s' c : Int32} (hs : s' = s) (hc : c = 255) (h : x >>> (s' &&& 31) &&& c ≤ 0) : q_bt x s = 0 := by
  subst hs hc
  unfold q_bt
  have h2 := q_255 (x >>> (s' &&& 31))
  rw [if_pos]
  rw [Int32.le_iff_toInt_le] at h
  rw [← Int32.toInt_inj]
  have h3 : (0 : Int32).toInt = 0 := rfl
  omega
theorem q_a1 {x s s' c : Int32} (hs : s' = s) (hc : c = 255) (h : ¬ x >>> (s' &&& 31) &&& c ≤ 0) : q_bt x s = 1 := by
  subst hs hc
  unfold q_bt
  rw [if_neg]
  intro h'
  rw [h'] at h
  exact h (by decide)
theorem q_eqm {P : Int32 → Prop} {a b : Int32} (h : P a) (e : a = b) : P b := e ▸ h
theorem q_gcd {x y : Int} (hx : 0 ≤ x) (hy : 0 < y) : Nat.gcd y.natAbs (x % y).natAbs = Nat.gcd x.natAbs y.natAbs := by
  obtain ⟨X, rfl⟩ := Int.eq_ofNat_of_zero_le hx
  obtain ⟨Y, rfl⟩ := Int.eq_ofNat_of_zero_le (Int.le_of_lt hy)
  have h : ((X : Int) % (Y : Int)).natAbs = X % Y := by
    rw [← Int.natCast_emod]; rfl
  rw [h]
  show Nat.gcd Y (X % Y) = Nat.gcd X Y
  rw [Nat.gcd_comm X Y, Nat.gcd_rec Y X, Nat.gcd_comm]
/-- B is A, divided below i -/
def q_P (A B : Nat → Int64) (i : Nat) : Prop := (∀ j, j < i → ((B j).toInt = 0 ↔ (A j).toInt = 0) ∧ (B j).toInt.natAbs ≤ (A j).toInt.natAbs) ∧ (∀ j, i ≤ j → B j = A j)
theorem q_P_zero (A : Nat → Int64) (i : Nat) : q_P A A i := ⟨fun _ _ => ⟨Iff.rfl, Nat.le_refl _⟩, fun _ _ => rfl⟩
theorem q_P_step {A B : Nat → Int64} {i k1 k2 : Nat} {z : Int64} (h : q_P A B i) (e1 : k1 = i) (e2 : k2 = i) (hz : 0 < z.toInt) (hd : z.toInt ∣ (A i).toInt) (hA : (A i).toInt.natAbs ≤ 1000000000) : q_P A (vp_updL B k1 (B k2 / z)) (i + 1) := by
  subst e1 e2
  obtain ⟨h1, h2⟩ := h
  refine ⟨fun j hj => ?_, fun j hj => ?_⟩
  · unfold vp_updL
    by_cases hjk : j = k2
    · subst hjk
      rw [if_pos rfl, h2 j (Nat.le_refl j)]
      exact ⟨q_div_zero hz hd (by omega), q_div_abs (by omega)⟩
    · rw [if_neg hjk]
      exact h1 j (by omega)
  · unfold vp_updL
    rw [if_neg (by omega)]
    exact h2 j (by omega)
theorem q_C_step {A B : Nat → Int64} {i k1 k2 : Nat} (h : ∀ j, j < i → B j = A j) (e1 : k1 = i) (e2 : k2 = i) : ∀ j, j < i + 1 → vp_updL B k1 (A k2) j = A j := by
  subst e1 e2
  intro j hj
  unfold vp_updL
  by_cases hjk : j = k2
  · rw [if_pos hjk, hjk]
  · rw [if_neg hjk]
    exact h j (by omega)
theorem q_N_step {A B : Nat → Int64} {i k1 k2 : Nat} (h : ∀ j, j < i → B j = -A j) (e1 : k1 = i) (e2 : k2 = i) : ∀ j, j < i + 1 → vp_updL B k1 (-A k2) j = -A j := by
  subst e1 e2
  intro j hj
  unfold vp_updL
  by_cases hjk : j = k2
  · rw [if_pos hjk, hjk]
  · rw [if_neg hjk]
    exact h j (by omega)
theorem q_Z_step {B : Nat → Int64} {i k1 : Nat} (h : ∀ j, j < i → B j = 0) (e1 : k1 = i) : ∀ j, j < i + 1 → vp_updL B k1 0 j = 0 := by
  subst e1
  intro j hj
  unfold vp_updL
  by_cases hjk : j = k1
  · rw [if_pos hjk]
  · rw [if_neg hjk]
    exact h j (by omega)
theorem mm_K3 : (-(Int16.ofInt 1000).toInt32).toInt = -1000 ∧ (-(1000000 : Int32)).toInt = -1000000 := ⟨rfl, rfl⟩

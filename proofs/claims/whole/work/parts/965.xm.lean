/-! THE SAME MACHINE OVER WHOLE NUMBERS: ints and longs are numbers of Lean, the heap is two functions (numbers M, references R) with the kinds of the cells beside them; xm_ words are mine. -/
abbrev xv : Type := Int ⊕ Int ⊕ Option Nat
/-- a cell's kind: an array (its type, how long), or an object (its class; of each field: 0 int, 1 long, 2 a reference that stays (which), 3 one that changes, 4 an int that stays; and its number) -/
abbrev xk : Type := (Nat × Nat) ⊕ (Nat × List (Nat × Nat × Int))
/-- kinds of the cells behind the first ones, how many these are, numbers, references, slots used -/
abbrev xs : Type := (Nat → Option xk) × Nat × (Nat → Int → Int) × (Nat → Int → Option Nat) × Nat
abbrev xo : Type := Option xv ⊕ (Nat × Nat)
abbrev xK : Type := xo → xs → Prop
abbrev xC : Type := Nat → List xv → xs → xK → Prop
abbrev xZ : Type := Nat → List (Nat × xv) → List xv → xs → Prop
def i32 (z : Int) : Prop := -2147483648 ≤ z ∧ z ≤ 2147483647
def i64 (z : Int) : Prop := -9223372036854775808 ≤ z ∧ z ≤ 9223372036854775807
def w32 (z : Int) : Int := (z + 2147483648) % 4294967296 - 2147483648
def w64 (z : Int) : Int := (z + 9223372036854775808) % 18446744073709551616 - 9223372036854775808
theorem w32_in (z : Int) : i32 (w32 z) := by unfold w32 i32; omega
theorem w64_in (z : Int) : i64 (w64 z) := by unfold w64 i64; omega
theorem w32_id {z : Int} (h1 : -2147483648 ≤ z) (h2 : z ≤ 2147483647) : w32 z = z := by unfold w32; omega
theorem w64_id {z : Int} (h1 : -9223372036854775808 ≤ z) (h2 : z ≤ 9223372036854775807) : w64 z = z := by unfold w64; omega
theorem w32_bmod (z : Int) : w32 z = z.bmod 4294967296 := by unfold w32; rw [Int.bmod_def]; split <;> omega
theorem w64_bmod (z : Int) : w64 z = z.bmod 18446744073709551616 := by unfold w64; rw [Int.bmod_def]; split <;> omega
theorem i32_of (z : Int) : (Int32.ofInt z).toInt = w32 z := by rw [w32_bmod]; exact Int32.toInt_ofInt
theorem i64_of (z : Int) : (Int64.ofInt z).toInt = w64 z := by rw [w64_bmod]; exact Int64.toInt_ofInt
theorem i32_to {z : Int} (h : i32 z) : (Int32.ofInt z).toInt = z := by rw [i32_of, w32_id h.1 h.2]
theorem i64_to {z : Int} (h : i64 z) : (Int64.ofInt z).toInt = z := by rw [i64_of, w64_id h.1 h.2]
theorem i32_back (x : Int32) : Int32.ofInt x.toInt = x := by
  rw [← Int32.toInt_inj, i32_of, w32_id]
  · have := x.le_toInt; omega
  · have := x.toInt_lt; omega
theorem i64_back (x : Int64) : Int64.ofInt x.toInt = x := by
  rw [← Int64.toInt_inj, i64_of, w64_id]
  · have := x.le_toInt; omega
  · have := x.toInt_lt; omega
theorem i32_x (x : Int32) : i32 x.toInt := by
  have := x.le_toInt
  have := x.toInt_lt
  exact ⟨by omega, by omega⟩
theorem i64_x (x : Int64) : i64 x.toInt := by
  have := x.le_toInt
  have := x.toInt_lt
  exact ⟨by omega, by omega⟩
theorem i32_w {x : Int32} {z : Int} (h : x.toInt = z) : x = Int32.ofInt z := by rw [← h, i32_back]
theorem i64_w {x : Int64} {z : Int} (h : x.toInt = z) : x = Int64.ofInt z := by rw [← h, i64_back]
theorem i32_add (a b : Int) : Int32.ofInt a + Int32.ofInt b = Int32.ofInt (w32 (a + b)) := by
  refine i32_w ?_
  rw [Int32.toInt_add, i32_of, i32_of, w32_bmod, w32_bmod, w32_bmod]
  simp
theorem i32_sub (a b : Int) : Int32.ofInt a - Int32.ofInt b = Int32.ofInt (w32 (a - b)) := by
  refine i32_w ?_
  rw [Int32.toInt_sub, i32_of, i32_of, w32_bmod, w32_bmod, w32_bmod]
  simp
theorem i32_mul (a b : Int) : Int32.ofInt a * Int32.ofInt b = Int32.ofInt (w32 (a * b)) := by
  refine i32_w ?_
  rw [Int32.toInt_mul, i32_of, i32_of, w32_bmod, w32_bmod, w32_bmod]
  simp
theorem i32_neg (a : Int) : -Int32.ofInt a = Int32.ofInt (w32 (-a)) := by
  refine i32_w ?_
  rw [Int32.toInt_neg, i32_of, w32_bmod, w32_bmod]
  simp
theorem i64_add (a b : Int) : Int64.ofInt a + Int64.ofInt b = Int64.ofInt (w64 (a + b)) := by
  refine i64_w ?_
  rw [Int64.toInt_add, i64_of, i64_of, w64_bmod, w64_bmod, w64_bmod]
  simp
theorem i64_sub (a b : Int) : Int64.ofInt a - Int64.ofInt b = Int64.ofInt (w64 (a - b)) := by
  refine i64_w ?_
  rw [Int64.toInt_sub, i64_of, i64_of, w64_bmod, w64_bmod, w64_bmod]
  simp
theorem i64_mul (a b : Int) : Int64.ofInt a * Int64.ofInt b = Int64.ofInt (w64 (a * b)) := by
  refine i64_w ?_
  rw [Int64.toInt_mul, i64_of, i64_of, w64_bmod, w64_bmod, w64_bmod]
  simp
theorem i64_neg (a : Int) : -Int64.ofInt a = Int64.ofInt (w64 (-a)) := by
  refine i64_w ?_
  rw [Int64.toInt_neg, i64_of, w64_bmod, w64_bmod]
  simp
theorem i32_div {a b : Int} (ha : i32 a) (hb : i32 b) : Int32.ofInt a / Int32.ofInt b = Int32.ofInt (w32 (a.tdiv b)) := by
  refine i32_w ?_
  rw [Int32.toInt_div, i32_to ha, i32_to hb, w32_bmod]
theorem i64_div {a b : Int} (ha : i64 a) (hb : i64 b) : Int64.ofInt a / Int64.ofInt b = Int64.ofInt (w64 (a.tdiv b)) := by
  refine i64_w ?_
  rw [Int64.toInt_div, i64_to ha, i64_to hb, w64_bmod]
theorem i32_rem {a b : Int} (ha : i32 a) (hb : i32 b) : Int32.ofInt a - Int32.ofInt a / Int32.ofInt b * Int32.ofInt b = Int32.ofInt (w32 (a.tmod b)) := by
  rw [i32_div ha hb, i32_mul, i32_sub]
  congr 1
  have h : a.tmod b = a - b * a.tdiv b := by have := Int.mul_tdiv_add_tmod a b; omega
  rw [h, Int.mul_comm b]
  generalize a.tdiv b = q
  have e1 : w32 (w32 (w32 q * b)) = w32 (q * b) := by simp only [w32_bmod]; simp
  have e2 : w32 (a - w32 (w32 q * b)) = w32 (a - w32 (w32 (w32 q * b))) := by simp only [w32_bmod]; simp
  rw [e2, e1]
  simp only [w32_bmod]
  simp
theorem i64_rem {a b : Int} (ha : i64 a) (hb : i64 b) : Int64.ofInt a - Int64.ofInt a / Int64.ofInt b * Int64.ofInt b = Int64.ofInt (w64 (a.tmod b)) := by
  rw [i64_div ha hb, i64_mul, i64_sub]
  congr 1
  have h : a.tmod b = a - b * a.tdiv b := by have := Int.mul_tdiv_add_tmod a b; omega
  rw [h, Int.mul_comm b]
  generalize a.tdiv b = q
  have e1 : w64 (w64 (w64 q * b)) = w64 (q * b) := by simp only [w64_bmod]; simp
  have e2 : w64 (a - w64 (w64 q * b)) = w64 (a - w64 (w64 (w64 q * b))) := by simp only [w64_bmod]; simp
  rw [e2, e1]
  simp only [w64_bmod]
  simp
theorem i32_lt {a b : Int} (ha : i32 a) (hb : i32 b) : (Int32.ofInt a < Int32.ofInt b) ↔ a < b := by
  rw [Int32.lt_iff_toInt_lt, i32_to ha, i32_to hb]
theorem i32_le {a b : Int} (ha : i32 a) (hb : i32 b) : (Int32.ofInt a ≤ Int32.ofInt b) ↔ a ≤ b := by
  rw [Int32.le_iff_toInt_le, i32_to ha, i32_to hb]
theorem i32_eq {a b : Int} (ha : i32 a) (hb : i32 b) : (Int32.ofInt a = Int32.ofInt b) ↔ a = b := by
  rw [← Int32.toInt_inj, i32_to ha, i32_to hb]
theorem i64_lt {a b : Int} (ha : i64 a) (hb : i64 b) : (Int64.ofInt a < Int64.ofInt b) ↔ a < b := by
  rw [Int64.lt_iff_toInt_lt, i64_to ha, i64_to hb]
theorem i64_le {a b : Int} (ha : i64 a) (hb : i64 b) : (Int64.ofInt a ≤ Int64.ofInt b) ↔ a ≤ b := by
  rw [Int64.le_iff_toInt_le, i64_to ha, i64_to hb]
theorem i64_eq {a b : Int} (ha : i64 a) (hb : i64 b) : (Int64.ofInt a = Int64.ofInt b) ↔ a = b := by
  rw [← Int64.toInt_inj, i64_to ha, i64_to hb]
theorem i32_0 : (0 : Int32) = Int32.ofInt 0 := rfl
theorem i32_00 : i32 0 := ⟨by decide, by decide⟩
theorem i64_00 : i64 0 := ⟨by decide, by decide⟩
/-- an index into an array -/
theorem i32_in {i : Int} {n : Nat} (hi : i32 i) (h : 0 ≤ i ∧ i < (n : Int)) : vp_in (Int32.ofInt i) n := by
  unfold vp_in
  rw [i32_0, i32_lt hi i32_00, ← Int32.toNat_toInt, i32_to hi]
  omega
theorem i32_clamp {i : Int} (hi : i32 i) : (Int32.ofInt i).toNatClampNeg = i.toNat := by
  rw [← Int32.toNat_toInt, i32_to hi]
def x_cmp (x y : Int) : Int := if x > y then 1 else if x = y then 0 else -1
theorem x_cmp_ge (x y : Int) : (0 ≤ x_cmp x y) ↔ y ≤ x := by unfold x_cmp; (repeat' split) <;> omega
theorem x_cmp_le (x y : Int) : (x_cmp x y ≤ 0) ↔ x ≤ y := by unfold x_cmp; (repeat' split) <;> omega
theorem x_cmp_gt (x y : Int) : (0 < x_cmp x y) ↔ y < x := by unfold x_cmp; (repeat' split) <;> omega
theorem x_cmp_lt (x y : Int) : (x_cmp x y < 0) ↔ x < y := by unfold x_cmp; (repeat' split) <;> omega
theorem x_cmp_eq (x y : Int) : (x_cmp x y = 0) ↔ x = y := by unfold x_cmp; (repeat' split) <;> omega
theorem x_cmp_in (x y : Int) : i32 (x_cmp x y) := by unfold x_cmp i32; (repeat' split) <;> omega
theorem x_cmp_ok {x y : Int} (hx : i64 x) (hy : i64 y) : lg_cmp (Int64.ofInt x) (Int64.ofInt y) = Int32.ofInt (x_cmp x y) := by
  unfold lg_cmp x_cmp
  simp only [gt_iff_lt, i64_lt hy hx, i64_eq hx hy]
  split
  · rfl
  · split <;> rfl
/-! its state, and what it stands for -/
def xm_c : xv → Value
  | .inl z => .int (Int32.ofInt z)
  | .inr (.inl z) => .long (Int64.ofInt z)
  | .inr (.inr r) => va_rf r
def xm_cat : xv → Nat
  | .inr (.inl _) => 2
  | _ => 1
theorem xm_c_cat (v : xv) : (xm_c v).category = xm_cat v := by
  rcases v with z | z | r
  · rfl
  · rfl
  · cases r <;> rfl
def xm_f (M : Int → Int) (R : Int → Option Nat) (f : Nat × Nat × Int) : Value := match f.1 with
  | 0 => .int (Int32.ofInt (M f.2.2))
  | 1 => .long (Int64.ofInt (M f.2.2))
  | 2 => .ref f.2.1
  | 4 => .int (Int32.ofInt (f.2.1 : Int))
  | _ => va_rf (R f.2.2)
def xm_e (M : Int → Int) (R : Int → Option Nat) : xk → va_E
  | .inl (t, n) => .inl (t, n, match t with
    | 0 => .inl (fun j => Int32.ofInt (M j))
    | 1 => .inr (.inl (fun j => Int64.ofInt (M j)))
    | 2 => .inl (fun j => Int32.ofInt (M j))
    | 3 => .inl (fun j => Int32.ofInt (M j))
    | _ => .inr (.inr (.inr (.inr (fun j => R j)))))
  | .inr (ci, fs) => .inr (ci, fs.map (xm_f M R))
/-- the kind of a cell: the first ones are K0's -/
def xm_kd : List xk → Nat → (Nat → Option xk) → Option xk
  | [], q, r => r q
  | k :: _, 0, _ => some k
  | _ :: l, q + 1, r => xm_kd l q r
def xm_g (K0 : List xk) (c0 : Nat) (s : xs) : List va_E := (List.range (s.2.1 + c0)).map (fun q => match xm_kd K0 q s.1 with
  | some kd => xm_e (s.2.2.1 q) (s.2.2.2.1 q) kd
  | none => .inr (0, []))
def xm_kok (M : Int → Int) : xk → Prop
  | .inl (t, _) => (t = 0 ∨ t = 2 ∨ t = 3 → ∀ j, i32 (M j)) ∧ (t = 1 → ∀ j, i64 (M j))
  | .inr (_, fs) => ∀ (i : Nat) f, fs[i]? = some f → f.2.2 = (i : Int) ∧ (f.1 = 0 → i32 (M f.2.2)) ∧ (f.1 = 1 → i64 (M f.2.2))
/-- what holds of each state -/
def xm_ok (K0 : List xk) (c0 : Nat) (s : xs) : Prop := K0.length = c0 ∧ (∀ e kd, s.1 e = some kd → e < s.2.1) ∧ ∀ q kd, xm_kd K0 q s.1 = some kd → xm_kok (s.2.2.1 q) kd
def xm_okv : xv → Prop
  | .inl z => i32 z
  | .inr (.inl z) => i64 z
  | .inr (.inr _) => True
def xm_okS (st : List xv) : Prop := ∀ v ∈ st, xm_okv v
def xm_okL (ls : List (Nat × xv)) : Prop := ∀ q ∈ ls, xm_okv q.2
def xm_L (ls : List (Nat × xv)) : List (Nat × Value) := ls.map (fun q => (q.1, xm_c q.2))
def xm_co : xo → mm_O
  | .inl v => .inl (v.map xm_c)
  | .inr x => .inr x
def xm_oko : xo → Prop
  | .inl (some v) => xm_okv v
  | _ => True
def xm_Q (K0 : List xk) (c0 : Nat) (Q : xK) : mm_K := fun o g sl => ∃ o' s', o = xm_co o' ∧ g = xm_g K0 c0 s' ∧ sl = s'.2.2.2.2 ∧ xm_ok K0 c0 s' ∧ xm_oko o' ∧ Q o' s'
theorem xm_kd_lt {K0 : List xk} {r : Nat → Option xk} : ∀ {q : Nat}, q < K0.length → xm_kd K0 q r = K0[q]? := by
  induction K0 with
  | nil => intro q h; simp at h
  | cons k l ih =>
    intro q h
    cases q with
    | zero => rfl
    | succ q => simpa [xm_kd] using ih (by simpa using h)
theorem xm_kd_ge {K0 : List xk} {r : Nat → Option xk} : ∀ {q : Nat}, xm_kd K0 (q + K0.length) r = r q := by
  induction K0 with
  | nil => intro q; rfl
  | cons k l ih => intro q; exact ih (q := q)
theorem xm_kd_has {K0 : List xk} {c0 : Nat} {s : xs} (h : xm_ok K0 c0 s) {q : Nat} {kd : xk} (hk : xm_kd K0 q s.1 = some kd) : q < s.2.1 + c0 := by
  by_cases hq : q < K0.length
  · have := h.1; omega
  · have e : q = (q - K0.length) + K0.length := by omega
    rw [e, xm_kd_ge] at hk
    have := h.2.1 _ _ hk
    have := h.1
    omega
theorem xm_g_at {K0 : List xk} {c0 : Nat} {s : xs} (h : xm_ok K0 c0 s) {q : Nat} {kd : xk} (hk : xm_kd K0 q s.1 = some kd) : (xm_g K0 c0 s)[q]? = some (xm_e (s.2.2.1 q) (s.2.2.2.1 q) kd) := by
  unfold xm_g
  rw [List.getElem?_map, List.getElem?_range (xm_kd_has h hk)]
  simp only [Option.map_some, hk]
theorem xm_g_len (K0 : List xk) (c0 : Nat) (s : xs) : (xm_g K0 c0 s).length = s.2.1 + c0 := by simp [xm_g]
/-- a number into a cell -/
def x_up (M : Nat → Int → Int) (q : Nat) (j : Int) (z : Int) : Nat → Int → Int := fun p i => if p = q ∧ i = j then z else M p i
def x_upR (R : Nat → Int → Option Nat) (q : Nat) (j : Int) (z : Option Nat) : Nat → Int → Option Nat := fun p i => if p = q ∧ i = j then z else R p i
theorem x_up_ne {M : Nat → Int → Int} {q p : Nat} {j z : Int} (h : p ≠ q) : x_up M q j z p = M p := by
  funext i
  unfold x_up
  rw [if_neg (fun h' => h h'.1)]
theorem x_upR_ne {M : Nat → Int → Option Nat} {q p : Nat} {j : Int} {z : Option Nat} (h : p ≠ q) : x_upR M q j z p = M p := by
  funext i
  unfold x_upR
  rw [if_neg (fun h' => h h'.1)]
theorem xm_g_set {K0 : List xk} {c0 : Nat} {s : xs} (h : xm_ok K0 c0 s) {q : Nat} {kd : xk} (hk : xm_kd K0 q s.1 = some kd) {M' : Nat → Int → Int} {R' : Nat → Int → Option Nat} (hM : ∀ p, p ≠ q → M' p = s.2.2.1 p) (hR : ∀ p, p ≠ q → R' p = s.2.2.2.1 p) (sl : Nat) :
    xm_g K0 c0 (s.1, s.2.1, M', R', sl) = (xm_g K0 c0 s).set q (xm_e (M' q) (R' q) kd) := by
  apply List.ext_getElem?
  intro i
  by_cases hi : i = q
  · subst hi
    rw [List.getElem?_set_self (by rw [xm_g_len]; exact xm_kd_has h hk)]
    unfold xm_g
    rw [List.getElem?_map, List.getElem?_range (xm_kd_has h hk)]
    simp only [Option.map_some, hk]
  · rw [List.getElem?_set_ne (fun h' => hi h'.symm)]
    unfold xm_g
    rw [List.getElem?_map, List.getElem?_map]
    by_cases hl : i < s.2.1 + c0
    · rw [List.getElem?_range hl]
      simp only [Option.map_some, hM i hi, hR i hi]
    · rw [List.getElem?_eq_none (by simp only [List.length_range]; omega)]
      rfl
/-- a new cell -/
def x_new (r : Nat → Option xk) (e : Nat) (kd : xk) : Nat → Option xk := fun i => if i = e then some kd else r i
def x_zM (M : Nat → Int → Int) (q : Nat) : Nat → Int → Int := fun p i => if p = q then 0 else M p i
def x_zR (R : Nat → Int → Option Nat) (q : Nat) : Nat → Int → Option Nat := fun p i => if p = q then none else R p i
theorem xm_kd_new {K0 : List xk} {r : Nat → Option xk} {e : Nat} {kd : xk} {q : Nat} (h : q < e + K0.length) : xm_kd K0 q (x_new r e kd) = xm_kd K0 q r := by
  by_cases hq : q < K0.length
  · rw [xm_kd_lt hq, xm_kd_lt hq]
  · have e1 : q = (q - K0.length) + K0.length := by omega
    rw [e1, xm_kd_ge, xm_kd_ge]
    unfold x_new
    rw [if_neg (by omega)]
theorem xm_g_new {K0 : List xk} {c0 : Nat} {s : xs} (h : xm_ok K0 c0 s) (kd : xk) (sl : Nat) : xm_g K0 c0 (x_new s.1 s.2.1 kd, s.2.1 + 1, x_zM s.2.2.1 (s.2.1 + c0), x_zR s.2.2.2.1 (s.2.1 + c0), sl) = xm_g K0 c0 s ++ [xm_e (fun _ => 0) (fun _ => none) kd] := by
  have h0 := h.1
  subst h0
  unfold xm_g
  dsimp only
  rw [show s.2.1 + 1 + K0.length = (s.2.1 + K0.length) + 1 by omega, List.range_succ, List.map_append]
  congr 1
  · apply List.map_congr_left
    intro q hq
    have hq := List.mem_range.mp hq
    rw [xm_kd_new hq]
    have e1 : x_zM s.2.2.1 (s.2.1 + K0.length) q = s.2.2.1 q := by
      funext i
      unfold x_zM
      rw [if_neg (by omega)]
    have e2 : x_zR s.2.2.2.1 (s.2.1 + K0.length) q = s.2.2.2.1 q := by
      funext i
      unfold x_zR
      rw [if_neg (by omega)]
    rw [e1, e2]
  · simp only [List.map_cons, List.map_nil, xm_kd_ge]
    have e1 : x_zM s.2.2.1 (s.2.1 + K0.length) (s.2.1 + K0.length) = fun _ => 0 := by
      funext i
      unfold x_zM
      rw [if_pos rfl]
    have e2 : x_zR s.2.2.2.1 (s.2.1 + K0.length) (s.2.1 + K0.length) = fun _ => none := by
      funext i
      unfold x_zR
      rw [if_pos rfl]
    rw [e1, e2]
    simp only [x_new, ↓reduceIte]
theorem xm_ok_new {K0 : List xk} {c0 : Nat} {s : xs} (h : xm_ok K0 c0 s) {kd : xk} (hk : xm_kok (fun _ => 0) kd) (sl : Nat) : xm_ok K0 c0 (x_new s.1 s.2.1 kd, s.2.1 + 1, x_zM s.2.2.1 (s.2.1 + c0), x_zR s.2.2.2.1 (s.2.1 + c0), sl) := by
  obtain ⟨h0, h1, h2⟩ := h
  refine ⟨h0, fun e k' he => ?_, fun q k' hq => ?_⟩
  · dsimp only at he ⊢
    unfold x_new at he
    split at he
    · omega
    · have := h1 _ _ he
      omega
  · dsimp only at hq ⊢
    by_cases hl : q < s.2.1 + c0
    · rw [xm_kd_new (by omega)] at hq
      have e1 : x_zM s.2.2.1 (s.2.1 + c0) q = s.2.2.1 q := by
        funext i
        unfold x_zM
        rw [if_neg (by omega)]
      rw [e1]
      exact h2 _ _ hq
    · have e0 : q = (q - K0.length) + K0.length := by omega
      rw [e0, xm_kd_ge] at hq
      unfold x_new at hq
      split at hq
      · cases hq
        have e1 : x_zM s.2.2.1 (s.2.1 + c0) q = fun _ => 0 := by
          funext i
          unfold x_zM
          rw [if_pos (by omega)]
        rw [e1]
        exact hk
      · have := h1 _ _ hq
        omega
theorem xm_ok_set {K0 : List xk} {c0 : Nat} {s : xs} (h : xm_ok K0 c0 s) {q : Nat} {kd : xk} (hk : xm_kd K0 q s.1 = some kd) {M' : Nat → Int → Int} {R' : Nat → Int → Option Nat} (hM : ∀ p, p ≠ q → M' p = s.2.2.1 p) (hq : xm_kok (M' q) kd) (sl : Nat) : xm_ok K0 c0 (s.1, s.2.1, M', R', sl) := by
  obtain ⟨h0, h1, h2⟩ := h
  refine ⟨h0, h1, fun p k' hp => ?_⟩
  dsimp only at hp ⊢
  by_cases e : p = q
  · subst e
    rw [hk] at hp
    cases hp
    exact hq
  · rw [hM p e]
    exact h2 _ _ hp
theorem xm_ok_in {K0 : List xk} {c0 : Nat} {s : xs} (h : xm_ok K0 c0 s) {q t n : Nat} (hk : xm_kd K0 q s.1 = some (.inl (t, n))) (ht : t = 0 ∨ t = 2 ∨ t = 3) (j : Int) : i32 (s.2.2.1 q j) := (h.2.2 _ _ hk).1 ht j
theorem xm_ok_il {K0 : List xk} {c0 : Nat} {s : xs} (h : xm_ok K0 c0 s) {q n : Nat} (hk : xm_kd K0 q s.1 = some (.inl (1, n))) (j : Int) : i64 (s.2.2.1 q j) := (h.2.2 _ _ hk).2 rfl j
/-- locals -/
def xm_get : List (Nat × xv) → Nat → Option xv
  | [], _ => none
  | (j, v) :: r, i => if j = i then some v else xm_get r i
theorem xm_get_L : ∀ (ls : List (Nat × xv)) (i : Nat), mm_get (xm_L ls) i = (xm_get ls i).map xm_c
  | [], i => rfl
  | q :: r, i => by
    show (if q.1 = i then some (xm_c q.2) else mm_get (xm_L r) i) = Option.map xm_c (if q.1 = i then some q.2 else xm_get r i)
    split
    · rfl
    · exact xm_get_L r i
theorem xm_get_ok {ls : List (Nat × xv)} (h : xm_okL ls) {i : Nat} {v : xv} (hg : xm_get ls i = some v) : xm_okv v := by
  induction ls with
  | nil => simp [xm_get] at hg
  | cons q r ih =>
    unfold xm_get at hg
    split at hg
    · cases hg
      exact h q List.mem_cons_self
    · exact ih (fun p hp => h p (List.mem_cons_of_mem _ hp)) hg
def xm_set1 (ls : List (Nat × xv)) (i : Nat) (v : xv) : List (Nat × xv) := (i, v) :: ls.filter (fun q => !(q.1 == i) && !(q.1 + 1 == i && xm_cat q.2 == 2))
def xm_set2 (ls : List (Nat × xv)) (i : Nat) (v : xv) : List (Nat × xv) := (i, v) :: ls.filter (fun q => !(q.1 == i) && (!(q.1 == i + 1) && !(q.1 + 1 == i && xm_cat q.2 == 2)))
theorem xm_filter (P : Nat → Nat → Bool) : ∀ ls : List (Nat × xv), (xm_L ls).filter (fun q => P q.1 q.2.category) = xm_L (ls.filter (fun q => P q.1 (xm_cat q.2)))
  | [] => rfl
  | q :: r => by
    have ih := xm_filter P r
    simp only [xm_L, List.map_cons, List.filter_cons, xm_c_cat] at ih ⊢
    split
    · rw [List.map_cons, ih]
    · exact ih
theorem xm_set1_L (ls : List (Nat × xv)) (i : Nat) (v : xv) : mm_set1 (xm_L ls) i (xm_c v) = xm_L (xm_set1 ls i v) := by
  have h := xm_filter (fun a c => !(a == i) && !(a + 1 == i && c == 2)) ls
  simp only [mm_set1, xm_set1, xm_L, List.map_cons] at h ⊢
  rw [h]
theorem xm_set2_L (ls : List (Nat × xv)) (i : Nat) (v : xv) : mm_set2 (xm_L ls) i (xm_c v) = xm_L (xm_set2 ls i v) := by
  have h := xm_filter (fun a c => !(a == i) && (!(a == i + 1) && !(a + 1 == i && c == 2))) ls
  simp only [mm_set2, xm_set2, xm_L, List.map_cons] at h ⊢
  rw [h]
theorem xm_set1_ok {ls : List (Nat × xv)} (h : xm_okL ls) {i : Nat} {v : xv} (hv : xm_okv v) : xm_okL (xm_set1 ls i v) := by
  intro q hq
  rcases List.mem_cons.mp hq with rfl | hq
  · exact hv
  · exact h q (List.mem_filter.mp hq).1
theorem xm_set2_ok {ls : List (Nat × xv)} (h : xm_okL ls) {i : Nat} {v : xv} (hv : xm_okv v) : xm_okL (xm_set2 ls i v) := by
  intro q hq
  rcases List.mem_cons.mp hq with rfl | hq
  · exact hv
  · exact h q (List.mem_filter.mp hq).1
/-! one step -/
def x_and (x y : Int) : Int := (Int32.ofInt x &&& Int32.ofInt y).toInt
def x_or (x y : Int) : Int := (Int32.ofInt x ||| Int32.ofInt y).toInt
def x_xor (x y : Int) : Int := (Int32.ofInt x ^^^ Int32.ofInt y).toInt
def x_shl (x y : Int) : Int := (Int32.ofInt x <<< (Int32.ofInt y &&& 31)).toInt
def x_shr (x y : Int) : Int := (Int32.ofInt x >>> (Int32.ofInt y &&& 31)).toInt
def x_ushr (x y : Int) : Int := ((Int32.ofInt x).toUInt32 >>> ((Int32.ofInt y).toUInt32 &&& Int32.toUInt32 31)).toInt32.toInt
def x_land (x y : Int) : Int := (Int64.ofInt x &&& Int64.ofInt y).toInt
def x_lor (x y : Int) : Int := (Int64.ofInt x ||| Int64.ofInt y).toInt
def x_lxor (x y : Int) : Int := (Int64.ofInt x ^^^ Int64.ofInt y).toInt
def x_i2c (x : Int) : Int := ((Int32.ofInt x).toUInt32 % 65536).toInt32.toInt
def x_i2b (x : Int) : Int := (Int32.ofInt x).toInt8.toInt32.toInt
def x_i2s (x : Int) : Int := (Int32.ofInt x).toInt16.toInt32.toInt
def x_nar (ty : FieldType) (x : Int) : Int := (vp_nar ty (Int32.ofInt x)).toInt
def xm_kind : Nat → xv → Bool
  | 0, .inl _ => true
  | 1, .inr (.inl _) => true
  | 2, .inr (.inr _) => true
  | _, _ => false
def xm_stk : Instr → List xv → Option (List xv)
  | .dup, a :: r => if xm_cat a = 1 then some (a :: a :: r) else none
  | .pop, a :: r => if xm_cat a = 1 then some r else none
  | .dup_x1, a :: b :: r => if xm_cat a = 1 ∧ xm_cat b = 1 then some (a :: b :: a :: r) else none
  | .dup_x2, a :: b :: d :: r => if xm_cat a = 1 ∧ xm_cat b = 1 ∧ xm_cat d = 1 then some (a :: b :: d :: a :: r) else none
  | .dup2, a :: r => if xm_cat a = 2 then some (a :: a :: r) else match r with
    | b :: r => if xm_cat a = 1 ∧ xm_cat b = 1 then some (a :: b :: a :: b :: r) else none
    | [] => none
  | .pop2, a :: r => if xm_cat a = 2 then some r else none
  | .dup2_x1, a :: b :: r => if xm_cat a = 2 ∧ xm_cat b = 1 then some (a :: b :: a :: r) else none
  | .dup2_x2, a :: b :: d :: r => if xm_cat a = 2 ∧ xm_cat b = 1 ∧ xm_cat d = 1 then some (a :: b :: d :: a :: r) else none
  | _, _ => none
def xm_take : Nat → List xv → List xv → Option (List xv × List xv)
  | 0, as, st => some (as, st)
  | _ + 1, _, [] => none
  | n + 1, as, v :: st => xm_take n (v :: as) st
def xm_cats : List xv → Nat
  | [] => 0
  | v :: r => xm_cat v + xm_cats r
def xm_recv (P : mm_P) (K0 : List xk) (k' : Nat) (as : List xv) (s : xs) : Bool := match as with
  | .inr (.inr (some (q + 1))) :: _ => match xm_kd K0 q s.1 with
    | some (.inr (ci, _)) => decide (ci = mm_kc P k')
    | _ => false
  | _ => false
def xm_isref : List xv → Bool
  | .inr (.inr (some _)) :: _ => true
  | _ => false
def xm_isS : List xv → Bool
  | .inr (.inr (some q)) :: _ => decide (q = 1000003)
  | _ => false
def xm_back (P : mm_P) (k : Nat) (nx : xZ) (Q : xK) (pc : Nat) (ls : List (Nat × xv)) (r : List xv) : xK := fun o s => match o with
  | .inl v => nx (pc + 3) ls (v.toList ++ r) s
  | .inr x => match mm_kh P k pc x.1 with
    | some h => h ≠ 999999 ∧ nx h ls [.inr (.inr (some x.2))] s
    | none => Q (.inr x) s
def xm_ldg (nx : xZ) (ls : List (Nat × xv)) (i kd pc : Nat) (st : List xv) (s : xs) : Prop := match xm_get ls i with
  | some v => match xm_kind kd v with
    | true => nx pc ls (v :: st) s
    | false => False
  | none => False
def xm_stg (nL : Nat) (nx : xZ) (ls : List (Nat × xv)) (i kd pc : Nat) (st : List xv) (s : xs) : Prop := match st with
  | v :: r => match xm_kind kd v with
    | true => match decide (i + xm_cat v ≤ nL) with
      | true => match kd with
        | 1 => nx pc (xm_set2 ls i v) r s
        | _ => nx pc (xm_set1 ls i v) r s
      | false => False
    | false => False
  | [] => False
def xm_brg (nx : xZ) (c : Prop) (o : Int) (pc : Nat) (ls : List (Nat × xv)) (r : List xv) (s : xs) : Prop := match mm_tgt pc o with
  | some t => (c → nx t ls r s) ∧ (¬ c → nx (pc + 3) ls r s)
  | none => False
def xm_ci (z : Int) (k : Int → Prop) : Prop := match z with
  | .ofNat n => mm_fn n (fun n => k (n : Int))
  | .negSucc n => mm_fn n (fun n => k (-((n : Int) + 1)))
def xm_lay : List Value → Int → List (Nat × Nat × Int)
  | [], _ => []
  | .int _ :: r, j => (0, 0, j) :: xm_lay r (j + 1)
  | .long _ :: r, j => (1, 0, j) :: xm_lay r (j + 1)
  | _ :: r, j => (3, 0, j) :: xm_lay r (j + 1)
def xm_dvb : List Value → Bool
  | [] => true
  | .int x :: r => decide (x = 0) && xm_dvb r
  | .long x :: r => decide (x = 0) && xm_dvb r
  | .null :: r => xm_dvb r
  | _ :: _ => false
def x_cpy (M : Nat → Int → Int) (q1 q2 : Nat) (sp dp n : Int) : Nat → Int → Int := fun p j => if p = q2 ∧ dp ≤ j ∧ j < dp + n then M q1 (sp + (j - dp)) else M p j
def xm_inv (P : mm_P) (call : xC) (k : Nat) (nx : xZ) (Q : xK) (k' na : Nat) (chk : List xv → Bool) (pc : Nat) (ls : List (Nat × xv)) (st : List xv) (s : xs) : Prop := match xm_take na [] st with
  | some (as, r) => match decide (xm_cats r + mm_kl P k' + 11 ≤ 64 ∧ xm_cats as ≤ mm_kl P k') && chk as with
    | true => call k' as s (xm_back P k nx Q pc ls r)
    | false => False
  | none => False
/-- an array's cell, with its place -/
def xm_arr (K0 : List xk) (t : Nat) (q : Nat) (s : xs) (i : Int) (nx : Prop) : Prop := match xm_kd K0 q s.1 with
  | some (.inl (t', n)) => match Nat.beq t' t with
    | true => (0 ≤ i ∧ i < (n : Int)) ∧ nx
    | false => False
  | _ => False
def xm_s (P : mm_P) (eX : Nat → Nat × (Nat → Int32)) (K0 : List xk) (c0 : Nat) (call : xC) (k : Nat) (nx : xZ) (Q : xK) (ins : Instr) (pc : Nat) (ls : List (Nat × xv)) (st : List xv) (s : xs) : Prop :=
  match ins with
  | .iconst n => match decide (-1 ≤ n ∧ n ≤ 5) with
    | true => nx (pc + 1) ls (.inl n :: st) s
    | false => False
  | .bipush n => match decide (-128 ≤ n ∧ n ≤ 127) with
    | true => nx (pc + 2) ls (.inl n :: st) s
    | false => False
  | .sipush n => match decide (-32768 ≤ n ∧ n ≤ 32767) with
    | true => nx (pc + 3) ls (.inl n :: st) s
    | false => False
  | .lconst n => match decide ((n : Nat) = 0) with
    | true => nx (pc + 1) ls (.inr (.inl 0) :: st) s
    | false => nx (pc + 1) ls (.inr (.inl 1) :: st) s
  | .aconst_null => nx (pc + 1) ls (.inr (.inr none) :: st) s
  | .iload_n j => xm_ldg nx ls j 0 (pc + 1) st s
  | .iload j => xm_ldg nx ls j 0 (pc + 2) st s
  | .lload_n j => xm_ldg nx ls j 1 (pc + 1) st s
  | .lload j => xm_ldg nx ls j 1 (pc + 2) st s
  | .aload_n j => xm_ldg nx ls j 2 (pc + 1) st s
  | .aload j => xm_ldg nx ls j 2 (pc + 2) st s
  | .istore_n j => xm_stg (mm_kl P k) nx ls j 0 (pc + 1) st s
  | .istore j => xm_stg (mm_kl P k) nx ls j 0 (pc + 2) st s
  | .lstore_n j => xm_stg (mm_kl P k) nx ls j 1 (pc + 1) st s
  | .lstore j => xm_stg (mm_kl P k) nx ls j 1 (pc + 2) st s
  | .astore_n j => xm_stg (mm_kl P k) nx ls j 2 (pc + 1) st s
  | .astore j => xm_stg (mm_kl P k) nx ls j 2 (pc + 2) st s
  | .iadd => match st with
    | .inl y :: .inl x :: r => nx (pc + 1) ls (.inl (w32 (x + y)) :: r) s
    | _ => False
  | .isub => match st with
    | .inl y :: .inl x :: r => nx (pc + 1) ls (.inl (w32 (x - y)) :: r) s
    | _ => False
  | .imul => match st with
    | .inl y :: .inl x :: r => nx (pc + 1) ls (.inl (w32 (x * y)) :: r) s
    | _ => False
  | .iand => match st with
    | .inl y :: .inl x :: r => nx (pc + 1) ls (.inl (x_and x y) :: r) s
    | _ => False
  | .ior => match st with
    | .inl y :: .inl x :: r => nx (pc + 1) ls (.inl (x_or x y) :: r) s
    | _ => False
  | .ixor => match st with
    | .inl y :: .inl x :: r => nx (pc + 1) ls (.inl (x_xor x y) :: r) s
    | _ => False
  | .ishl => match st with
    | .inl y :: .inl x :: r => nx (pc + 1) ls (.inl (x_shl x y) :: r) s
    | _ => False
  | .ishr => match st with
    | .inl y :: .inl x :: r => nx (pc + 1) ls (.inl (x_shr x y) :: r) s
    | _ => False
  | .iushr => match st with
    | .inl y :: .inl x :: r => nx (pc + 1) ls (.inl (x_ushr x y) :: r) s
    | _ => False
  | .ladd => match st with
    | .inr (.inl y) :: .inr (.inl x) :: r => nx (pc + 1) ls (.inr (.inl (w64 (x + y))) :: r) s
    | _ => False
  | .lsub => match st with
    | .inr (.inl y) :: .inr (.inl x) :: r => nx (pc + 1) ls (.inr (.inl (w64 (x - y))) :: r) s
    | _ => False
  | .lmul => match st with
    | .inr (.inl y) :: .inr (.inl x) :: r => nx (pc + 1) ls (.inr (.inl (w64 (x * y))) :: r) s
    | _ => False
  | .land => match st with
    | .inr (.inl y) :: .inr (.inl x) :: r => nx (pc + 1) ls (.inr (.inl (x_land x y)) :: r) s
    | _ => False
  | .lor => match st with
    | .inr (.inl y) :: .inr (.inl x) :: r => nx (pc + 1) ls (.inr (.inl (x_lor x y)) :: r) s
    | _ => False
  | .lxor => match st with
    | .inr (.inl y) :: .inr (.inl x) :: r => nx (pc + 1) ls (.inr (.inl (x_lxor x y)) :: r) s
    | _ => False
  | .idiv => match st with
    | .inl y :: .inl x :: r => ¬ y = 0 ∧ nx (pc + 1) ls (.inl (w32 (x.tdiv y)) :: r) s
    | _ => False
  | .irem => match st with
    | .inl y :: .inl x :: r => ¬ y = 0 ∧ nx (pc + 1) ls (.inl (w32 (x.tmod y)) :: r) s
    | _ => False
  | .ldiv => match st with
    | .inr (.inl y) :: .inr (.inl x) :: r => ¬ y = 0 ∧ nx (pc + 1) ls (.inr (.inl (w64 (x.tdiv y))) :: r) s
    | _ => False
  | .lrem => match st with
    | .inr (.inl y) :: .inr (.inl x) :: r => ¬ y = 0 ∧ nx (pc + 1) ls (.inr (.inl (w64 (x.tmod y))) :: r) s
    | _ => False
  | .ineg => match st with
    | .inl x :: r => nx (pc + 1) ls (.inl (w32 (-x)) :: r) s
    | _ => False
  | .i2c => match st with
    | .inl x :: r => nx (pc + 1) ls (.inl (x_i2c x) :: r) s
    | _ => False
  | .i2b => match st with
    | .inl x :: r => nx (pc + 1) ls (.inl (x_i2b x) :: r) s
    | _ => False
  | .i2s => match st with
    | .inl x :: r => nx (pc + 1) ls (.inl (x_i2s x) :: r) s
    | _ => False
  | .i2l => match st with
    | .inl x :: r => nx (pc + 1) ls (.inr (.inl x) :: r) s
    | _ => False
  | .l2i => match st with
    | .inr (.inl x) :: r => nx (pc + 1) ls (.inl (w32 x) :: r) s
    | _ => False
  | .lneg => match st with
    | .inr (.inl x) :: r => nx (pc + 1) ls (.inr (.inl (w64 (-x))) :: r) s
    | _ => False
  | .lcmp => match st with
    | .inr (.inl y) :: .inr (.inl x) :: r => nx (pc + 1) ls (.inl (x_cmp x y) :: r) s
    | _ => False
  | .ifCond .eq o => match st with
    | .inl x :: r => xm_brg nx (x = 0) o pc ls r s
    | _ => False
  | .ifCond .ne o => match st with
    | .inl x :: r => xm_brg nx (¬ x = 0) o pc ls r s
    | _ => False
  | .ifCond .lt o => match st with
    | .inl x :: r => xm_brg nx (x < 0) o pc ls r s
    | _ => False
  | .ifCond .ge o => match st with
    | .inl x :: r => xm_brg nx (0 ≤ x) o pc ls r s
    | _ => False
  | .ifCond .gt o => match st with
    | .inl x :: r => xm_brg nx (0 < x) o pc ls r s
    | _ => False
  | .ifCond .le o => match st with
    | .inl x :: r => xm_brg nx (x ≤ 0) o pc ls r s
    | _ => False
  | .if_icmp .eq o => match st with
    | .inl y :: .inl x :: r => xm_brg nx (x = y) o pc ls r s
    | _ => False
  | .if_icmp .ne o => match st with
    | .inl y :: .inl x :: r => xm_brg nx (¬ x = y) o pc ls r s
    | _ => False
  | .if_icmp .lt o => match st with
    | .inl y :: .inl x :: r => xm_brg nx (x < y) o pc ls r s
    | _ => False
  | .if_icmp .ge o => match st with
    | .inl y :: .inl x :: r => xm_brg nx (y ≤ x) o pc ls r s
    | _ => False
  | .if_icmp .gt o => match st with
    | .inl y :: .inl x :: r => xm_brg nx (y < x) o pc ls r s
    | _ => False
  | .if_icmp .le o => match st with
    | .inl y :: .inl x :: r => xm_brg nx (x ≤ y) o pc ls r s
    | _ => False
  | .dup => match xm_stk .dup st with
    | some r => nx (pc + 1) ls r s
    | none => False
  | .pop => match xm_stk .pop st with
    | some r => nx (pc + 1) ls r s
    | none => False
  | .dup_x1 => match xm_stk .dup_x1 st with
    | some r => nx (pc + 1) ls r s
    | none => False
  | .dup_x2 => match xm_stk .dup_x2 st with
    | some r => nx (pc + 1) ls r s
    | none => False
  | .dup2 => match xm_stk .dup2 st with
    | some r => nx (pc + 1) ls r s
    | none => False
  | .pop2 => match xm_stk .pop2 st with
    | some r => nx (pc + 1) ls r s
    | none => False
  | .dup2_x1 => match xm_stk .dup2_x1 st with
    | some r => nx (pc + 1) ls r s
    | none => False
  | .dup2_x2 => match xm_stk .dup2_x2 st with
    | some r => nx (pc + 1) ls r s
    | none => False
  | .goto o => match mm_tgt pc o with
    | some t => nx t ls st s
    | none => False
  | .iinc i c => match xm_get ls i with
    | some (.inl x) => match decide (i < mm_kl P k ∧ -32768 ≤ c ∧ c ≤ 32767) with
      | true => nx (pc + 3) (xm_set1 ls i (.inl (w32 (x + c)))) st s
      | false => False
    | _ => False
  | .ifnull o => match st with
    | .inr (.inr none) :: r => match mm_tgt pc o with
      | some t => nx t ls r s
      | none => False
    | .inr (.inr (some _)) :: r => nx (pc + 3) ls r s
    | _ => False
  | .ifnonnull o => match st with
    | .inr (.inr (some _)) :: r => match mm_tgt pc o with
      | some t => nx t ls r s
      | none => False
    | .inr (.inr none) :: r => nx (pc + 3) ls r s
    | _ => False
  | .getfield i => match st with
    | .inr (.inr (some (q + 1))) :: r => match xm_kd K0 q s.1 with
      | some (.inr (ci, fs)) => match mm_fl P (mm_kc P k) i with
        | some (cj, j) => match decide (ci = cj) with
          | true => match fs[j]? with
            | some (0, _, z) => nx (pc + 3) ls (.inl (s.2.2.1 q z) :: r) s
            | some (1, _, z) => nx (pc + 3) ls (.inr (.inl (s.2.2.1 q z)) :: r) s
            | some (2, p, _) => nx (pc + 3) ls (.inr (.inr (some p)) :: r) s
            | some (4, p, _) => match decide (p ≤ 1000000) with
              | true => nx (pc + 3) ls (.inl (p : Int) :: r) s
              | false => False
            | some (_, _, z) => nx (pc + 3) ls (.inr (.inr (s.2.2.2.1 q z)) :: r) s
            | none => False
          | false => False
        | none => False
      | _ => False
    | _ => False
  | .putfield i => match st with
    | v :: .inr (.inr (some (q + 1))) :: r => match xm_kd K0 q s.1 with
      | some (.inr (ci, fs)) => match mm_fl P (mm_kc P k) i with
        | some (cj, j) => match decide (ci = cj ∧ ((mm_ft P ci j).2 = false ∨ (mm_ki P k = true ∧ ci = mm_kc P k))) with
          | true => match fs[j]? with
            | some (0, _, z) => match v with
              | .inl x => match (mm_ft P ci j).1 with
                | .int => nx (pc + 3) ls r (s.1, s.2.1, x_up s.2.2.1 q z x, s.2.2.2.1, s.2.2.2.2)
                | .boolean => (0 ≤ x ∧ x ≤ 1) ∧ nx (pc + 3) ls r (s.1, s.2.1, x_up s.2.2.1 q z x, s.2.2.2.1, s.2.2.2.2)
                | _ => False
              | _ => False
            | some (1, _, z) => match v with
              | .inr (.inl x) => match (mm_ft P ci j).1 with
                | .long => nx (pc + 3) ls r (s.1, s.2.1, x_up s.2.2.1 q z x, s.2.2.2.1, s.2.2.2.2)
                | _ => False
              | _ => False
            | some (3, _, z) => match v with
              | .inr (.inr x) => match (mm_ft P ci j).1 with
                | .object _ => nx (pc + 3) ls r (s.1, s.2.1, s.2.2.1, x_upR s.2.2.2.1 q z x, s.2.2.2.2)
                | .array _ => nx (pc + 3) ls r (s.1, s.2.1, s.2.2.1, x_upR s.2.2.2.1 q z x, s.2.2.2.2)
                | _ => False
              | _ => False
            | _ => False
          | false => False
        | none => False
      | _ => False
    | _ => False
  | .iaload => match st with
    | .inl i :: .inr (.inr (some 0)) :: r => (0 ≤ i ∧ i < ((eX 0).1 : Int)) ∧ nx (pc + 1) ls (.inl ((eX 0).2 i.toNat).toInt :: r) s
    | .inl i :: .inr (.inr (some (q + 1))) :: r => xm_arr K0 0 q s i (nx (pc + 1) ls (.inl (s.2.2.1 q i) :: r) s)
    | _ => False
  | .laload => match st with
    | .inl i :: .inr (.inr (some (q + 1))) :: r => xm_arr K0 1 q s i (nx (pc + 1) ls (.inr (.inl (s.2.2.1 q i)) :: r) s)
    | _ => False
  | .caload => match st with
    | .inl i :: .inr (.inr (some (q + 1))) :: r => xm_arr K0 2 q s i (nx (pc + 1) ls (.inl (s.2.2.1 q i) :: r) s)
    | _ => False
  | .baload => match st with
    | .inl i :: .inr (.inr (some (q + 1))) :: r => xm_arr K0 3 q s i (nx (pc + 1) ls (.inl (s.2.2.1 q i) :: r) s)
    | _ => False
  | .aaload => match st with
    | .inl i :: .inr (.inr (some (q + 1))) :: r => match xm_kd K0 q s.1 with
      | some (.inl (t, n)) => match decide (4 ≤ t ∧ t < mm_nT P) with
        | true => (0 ≤ i ∧ i < (n : Int)) ∧ nx (pc + 1) ls (.inr (.inr (s.2.2.2.1 q i)) :: r) s
        | false => False
      | _ => False
    | _ => False
  | .iastore => match st with
    | .inl x :: .inl i :: .inr (.inr (some (q + 1))) :: r => xm_arr K0 0 q s i (nx (pc + 1) ls r (s.1, s.2.1, x_up s.2.2.1 q i x, s.2.2.2.1, s.2.2.2.2))
    | _ => False
  | .lastore => match st with
    | .inr (.inl x) :: .inl i :: .inr (.inr (some (q + 1))) :: r => xm_arr K0 1 q s i (nx (pc + 1) ls r (s.1, s.2.1, x_up s.2.2.1 q i x, s.2.2.2.1, s.2.2.2.2))
    | _ => False
  | .castore => match st with
    | .inl x :: .inl i :: .inr (.inr (some (q + 1))) :: r => xm_arr K0 2 q s i (nx (pc + 1) ls r (s.1, s.2.1, x_up s.2.2.1 q i (x_nar .char x), s.2.2.2.1, s.2.2.2.2))
    | _ => False
  | .bastore => match st with
    | .inl x :: .inl i :: .inr (.inr (some (q + 1))) :: r => xm_arr K0 3 q s i (nx (pc + 1) ls r (s.1, s.2.1, x_up s.2.2.1 q i (x_nar .boolean x), s.2.2.2.1, s.2.2.2.2))
    | _ => False
  | .aastore => match st with
    | .inr (.inr (some (q2 + 1))) :: .inl i :: .inr (.inr (some (q + 1))) :: r => match xm_kd K0 q s.1 with
      | some (.inl (t, n)) => match decide (4 ≤ t) with
        | true => match xm_kd K0 q2 s.1 with
          | some (.inr (ci, _)) => match mm_ec P t with
            | some cj => match decide (ci = cj) with
              | true => (0 ≤ i ∧ i < (n : Int)) ∧ nx (pc + 1) ls r (s.1, s.2.1, s.2.2.1, x_upR s.2.2.2.1 q i (some (q2 + 1)), s.2.2.2.2)
              | false => False
            | none => False
          | some (.inl (0, _)) => match mm_ec P t with
            | some cj => match decide (cj = 1000000) with
              | true => (0 ≤ i ∧ i < (n : Int)) ∧ nx (pc + 1) ls r (s.1, s.2.1, s.2.2.1, x_upR s.2.2.2.1 q i (some (q2 + 1)), s.2.2.2.2)
              | false => False
            | none => False
          | _ => False
        | false => False
      | _ => False
    | _ => False
  | .arraylength => match st with
    | .inr (.inr (some 0)) :: r => nx (pc + 1) ls (.inl ((eX 0).1 : Int) :: r) s
    | .inr (.inr (some (q + 1))) :: r => match xm_kd K0 q s.1 with
      | some (.inl (t, n)) => match decide (t < mm_nT P ∧ n ≤ 1000000) with
        | true => nx (pc + 1) ls (.inl (n : Int) :: r) s
        | false => False
      | _ => False
    | _ => False
  | .newarray y => match st with
    | .inl x :: r => match mm_nt y with
      | some (t, _) => (0 ≤ x ∧ x ≤ 1000000 ∧ s.2.1 + c0 + 1 ≤ mm_CM P ∧ s.2.2.2.2 + x.toNat ≤ mm_SM P) ∧ mm_fn x.toNat (fun n => nx (pc + 2) ls (.inr (.inr (some (s.2.1 + c0 + 1))) :: r) (x_new s.1 s.2.1 (.inl (t, n)), s.2.1 + 1, x_zM s.2.2.1 (s.2.1 + c0), x_zR s.2.2.2.1 (s.2.1 + c0), s.2.2.2.2 + n))
      | none => False
    | _ => False
  | .anewarray i => match st with
    | .inl x :: r => match mm_al P (mm_kc P k) i with
      | some t => match decide (4 ≤ t) with
        | true => (0 ≤ x ∧ x ≤ 1000000 ∧ s.2.1 + c0 + 1 ≤ mm_CM P ∧ s.2.2.2.2 + x.toNat ≤ mm_SM P) ∧ mm_fn x.toNat (fun n => nx (pc + 3) ls (.inr (.inr (some (s.2.1 + c0 + 1))) :: r) (x_new s.1 s.2.1 (.inl (t, n)), s.2.1 + 1, x_zM s.2.2.1 (s.2.1 + c0), x_zR s.2.2.2.1 (s.2.1 + c0), s.2.2.2.2 + n))
        | false => False
      | none => False
    | _ => False
  | .new i => match mm_nl P (mm_kc P k) i with
    | some (ci, dv) => match xm_dvb dv with
      | true => (s.2.1 + c0 + 1 ≤ mm_CM P ∧ s.2.2.2.2 + dv.length ≤ mm_SM P) ∧ nx (pc + 3) ls (.inr (.inr (some (s.2.1 + c0 + 1))) :: st) (x_new s.1 s.2.1 (.inr (ci, xm_lay dv 0)), s.2.1 + 1, x_zM s.2.2.1 (s.2.1 + c0), x_zR s.2.2.2.1 (s.2.1 + c0), s.2.2.2.2 + dv.length)
      | false => False
    | none => False
  | .ldc i => match mm_cI P (mm_kc P k) i with
    | some v => xm_ci v.toInt (fun z => nx (pc + 2) ls (.inl z :: st) s)
    | none => False
  | .ldc_w i => match mm_cI P (mm_kc P k) i with
    | some v => xm_ci v.toInt (fun z => nx (pc + 3) ls (.inl z :: st) s)
    | none => False
  | .ldc2_w i => match mm_cL P (mm_kc P k) i with
    | some v => xm_ci v.toInt (fun z => nx (pc + 3) ls (.inr (.inl z) :: st) s)
    | none => False
  | .ireturn => match st with
    | [.inl x] => match mm_kr P k with
      | some .int => Q (.inl (some (.inl x))) s
      | some .boolean => (0 ≤ x ∧ x ≤ 1) ∧ Q (.inl (some (.inl x))) s
      | some .char => (0 ≤ x ∧ x ≤ 65535) ∧ Q (.inl (some (.inl x))) s
      | _ => False
    | _ => False
  | .lreturn => match st with
    | [.inr (.inl x)] => match mm_kr P k with
      | some .long => Q (.inl (some (.inr (.inl x)))) s
      | _ => False
    | _ => False
  | .areturn => match st with
    | [.inr (.inr x)] => match mm_kr P k with
      | some (.object _) => Q (.inl (some (.inr (.inr x)))) s
      | some (.array _) => Q (.inl (some (.inr (.inr x)))) s
      | _ => False
    | _ => False
  | .return_ => match st with
    | [] => match mm_kr P k with
      | none => Q (.inl none) s
      | some _ => False
    | _ => False
  | .invokestatic i => match mm_ml P (mm_kc P k) i with
    | some (k', na, 0) => xm_inv P call k nx Q k' na (fun _ => true) pc ls st s
    | some (k', na, 5) => xm_inv P call k nx Q k' na (fun _ => true) pc ls st s
    | some (_, _, 4) => match st with
      | .inl n :: .inl dp :: .inr (.inr (some (q2 + 1))) :: .inl sp :: .inr (.inr (some (q1 + 1))) :: r => match xm_kd K0 q1 s.1 with
        | some (.inl (1, n1)) => match xm_kd K0 q2 s.1 with
          | some (.inl (1, n2)) => match decide (xm_cats r ≤ 24) with
            | true => (0 ≤ sp ∧ 0 ≤ dp ∧ 0 ≤ n ∧ sp + n ≤ (n1 : Int) ∧ dp + n ≤ (n2 : Int)) ∧ nx (pc + 3) ls r (s.1, s.2.1, x_cpy s.2.2.1 q1 q2 sp dp n, s.2.2.2.1, s.2.2.2.2)
            | false => False
          | _ => False
        | _ => False
      | _ => False
    | _ => False
  | .invokevirtual i => match mm_ml P (mm_kc P k) i with
    | some (k', na, 1) => xm_inv P call k nx Q k' na (fun as => xm_recv P K0 k' as s) pc ls st s
    | some (k', na, 7) => xm_inv P call k nx Q k' na xm_isS pc ls st s
    | _ => False
  | .invokespecial i => match mm_ml P (mm_kc P k) i with
    | some (k', na, 2) => xm_inv P call k nx Q k' na xm_isref pc ls st s
    | some (_, _, 3) => match st with
      | .inr (.inr (some _)) :: r => match decide (xm_cats r + 12 ≤ 64) with
        | true => nx (pc + 3) ls r s
        | false => False
      | _ => False
    | _ => False
  | _ => False
/-- one step, with the places that have rows of their own -/
def xm_z (P : mm_P) (eX : Nat → Nat × (Nat → Int32)) (K0 : List xk) (c0 : Nat) (call : xC) (k : Nat) (nx : xZ) (Q : xK) (pc : Nat) (ls : List (Nat × xv)) (st : List xv) (s : xs) : Prop :=
  match mm_xt P k pc with
  | some ci => (s.2.1 + c0 + 1 ≤ mm_CM P ∧ s.2.2.2.2 + 6 ≤ mm_SM P ∧ xm_cats st ≤ 8) ∧ Q (.inr (ci, s.2.1 + c0 + 1)) (x_new s.1 s.2.1 (.inr (ci, [])), s.2.1 + 1, x_zM s.2.2.1 (s.2.1 + c0), x_zR s.2.2.2.1 (s.2.1 + c0), s.2.2.2.2 + 6)
  | none =>
  match mm_sw P k pc with
  | some (lo, dt, ts) => match st with
    | .inl x :: r => ((x < lo ∨ lo + (ts.length : Int) - 1 < x) → nx dt ls r s) ∧ mm_swl x lo ts (fun t => nx t ls r s)
    | _ => False
  | none =>
  match mm_lk P k pc with
  | some (dt, ps) => match st with
    | .inl x :: r => mm_lks x ps (fun t => nx t ls r s) (nx dt ls r s)
    | _ => False
  | none =>
  match mm_gs P k pc with
  | some (j, _, 0, _) => nx (pc + 4) ls (.inl ((eX (j + 1)).1 : Int) :: st) s
  | some (j, _, i + 1, w) => match xm_get ls i with
    | some (.inl x) => (0 ≤ x ∧ x < ((eX (j + 1)).1 : Int)) ∧ nx (pc + 3 + w + 1) ls (.inl ((eX (j + 1)).2 x.toNat).toInt :: st) s
    | _ => False
  | none =>
  match mm_xs P k pc with
  | some (0, _) => nx (pc + 2) ls (.inr (.inr (some 1000003)) :: st) s
  | some (1, _) => match st with
    | .inr (.inr (some q)) :: r => match decide (q = 1000003) with
      | true => nx (pc + 3) ls (.inr (.inr (some 1000004)) :: r) s
      | false => False
    | _ => False
  | some (2, _) => match st with
    | .inr (.inr (some q)) :: r => match decide (q = 1000003) with
      | true => nx (pc + 3) ls (.inl 0 :: r) s
      | false => False
    | _ => False
  | some (3, _) => match st with
    | .inl x :: .inr (.inr (some q)) :: r => match decide (q = 1000004) with
      | true => (0 ≤ x ∧ x < ((eX 4).1 : Int)) ∧ nx (pc + 1) ls (.inl ((eX 4).2 x.toNat).toInt :: r) s
      | false => False
    | _ => False
  | some (4, _) => match st with
    | .inr (.inr (some q)) :: r => match decide (q = 1000004) with
      | true => nx (pc + 1) ls (.inl ((eX 4).1 : Int) :: r) s
      | false => False
    | _ => False
  | some (_, c) => match decide (c ≤ 1000) with
    | true => nx (pc + 3) ls (.inl (c : Int) :: st) s
    | false => False
  | none =>
  match mm_look (mm_kd P k) pc with
  | none => False
  | some ins => xm_s P eX K0 c0 call k nx Q ins pc ls st s
/-! it tells the truth of the small machine -/
theorem xo_hd {v : xv} {r : List xv} (h : xm_okS (v :: r)) : xm_okv v := h v List.mem_cons_self
theorem xo_tl {v : xv} {r : List xv} (h : xm_okS (v :: r)) : xm_okS r := fun w hw => h w (List.mem_cons_of_mem _ hw)
theorem xo_cons {v : xv} {r : List xv} (hv : xm_okv v) (h : xm_okS r) : xm_okS (v :: r) := fun w hw => by
  rcases List.mem_cons.mp hw with rfl | hw
  · exact hv
  · exact h w hw
theorem xo_app {a b : List xv} (ha : xm_okS a) (hb : xm_okS b) : xm_okS (a ++ b) := fun w hw => by
  rcases List.mem_append.mp hw with hw | hw
  · exact ha w hw
  · exact hb w hw
theorem xm_cats_map : ∀ st : List xv, mm_cats (st.map xm_c) = xm_cats st
  | [] => rfl
  | v :: r => by
    have ih := xm_cats_map r
    simp only [mm_cats, List.map_cons, List.sum_cons, xm_c_cat, xm_cats] at ih ⊢
    rw [ih]
theorem xm_take_map : ∀ (n : Nat) (as st : List xv), mm_take n (as.map xm_c) (st.map xm_c) = (xm_take n as st).map (fun q => (q.1.map xm_c, q.2.map xm_c))
  | 0, as, st => rfl
  | n + 1, as, [] => rfl
  | n + 1, as, v :: st => xm_take_map n (v :: as) st
theorem xm_take_ok : ∀ (n : Nat) (as st as' r : List xv), xm_take n as st = some (as', r) → xm_okS as → xm_okS st → xm_okS as' ∧ xm_okS r
  | 0, as, st, as', r, h, h1, h2 => by
    simp only [xm_take, Option.some.injEq, Prod.mk.injEq] at h
    rw [← h.1, ← h.2]
    exact ⟨h1, h2⟩
  | n + 1, as, [], as', r, h, h1, h2 => by simp [xm_take] at h
  | n + 1, as, v :: st, as', r, h, h1, h2 => xm_take_ok n (v :: as) st as' r h (xo_cons (xo_hd h2) h1) (xo_tl h2)
theorem xm_stk_map (ins : Instr) (st : List xv) : mm_stk ins (st.map xm_c) = (xm_stk ins st).map (List.map xm_c) := by
  cases ins <;> try rfl
  all_goals (rcases st with _ | ⟨a, _ | ⟨b, _ | ⟨d, r⟩⟩⟩)
  all_goals simp only [mm_stk, xm_stk, List.map_cons, List.map_nil, xm_c_cat]
  all_goals first | rfl | ((repeat' split) <;> first | rfl | (exfalso; simp_all; done))
theorem xm_stk_ok {ins : Instr} {st r : List xv} (h : xm_stk ins st = some r) (hs : xm_okS st) : xm_okS r := by
  unfold xm_stk at h
  split at h
  · split at h
    · cases h; exact xo_cons (xo_hd hs) hs
    · cases h
  · split at h
    · cases h; exact xo_tl hs
    · cases h
  · split at h
    · cases h; exact xo_cons (xo_hd hs) (xo_cons (xo_hd (xo_tl hs)) (xo_cons (xo_hd hs) (xo_tl (xo_tl hs))))
    · cases h
  · split at h
    · cases h; exact xo_cons (xo_hd hs) (xo_cons (xo_hd (xo_tl hs)) (xo_cons (xo_hd (xo_tl (xo_tl hs))) (xo_cons (xo_hd hs) (xo_tl (xo_tl (xo_tl hs))))))
    · cases h
  · split at h
    · cases h; exact xo_cons (xo_hd hs) hs
    · split at h
      · split at h
        · cases h; exact xo_cons (xo_hd hs) (xo_cons (xo_hd (xo_tl hs)) hs)
        · cases h
      · cases h
  · split at h
    · cases h; exact xo_tl hs
    · cases h
  · split at h
    · cases h; exact xo_cons (xo_hd hs) (xo_cons (xo_hd (xo_tl hs)) (xo_cons (xo_hd hs) (xo_tl (xo_tl hs))))
    · cases h
  · split at h
    · cases h; exact xo_cons (xo_hd hs) (xo_cons (xo_hd (xo_tl hs)) (xo_cons (xo_hd (xo_tl (xo_tl hs))) (xo_cons (xo_hd hs) (xo_tl (xo_tl (xo_tl hs))))))
    · cases h
  · cases h
theorem xm_lay_ok : ∀ (dv : List Value) (j : Nat) (i : Nat) f, (xm_lay dv j)[i]? = some f → f.2.2 = ((j + i : Nat) : Int)
  | [], j, i, f, h => by simp [xm_lay] at h
  | v :: r, j, 0, f, h => by
    have : f.2.2 = (j : Int) := by cases v <;> simp [xm_lay] at h <;> rw [← h]
    simpa using this
  | v :: r, j, i + 1, f, h => by
    have h2 : (xm_lay r ((j : Int) + 1))[i]? = some f := by cases v <;> simpa [xm_lay] using h
    have := xm_lay_ok r (j + 1) i f h2
    rw [this]
    congr 1
    omega
theorem xm_lay_dv (M : Int → Int) (R : Int → Option Nat) (hM : ∀ j, M j = 0) (hR : ∀ j, R j = none) : ∀ (dv : List Value) (j : Int), xm_dvb dv = true → (xm_lay dv j).map (xm_f M R) = dv
  | [], j, h => rfl
  | v :: r, j, h => by
    cases v with
    | int x =>
      simp only [xm_dvb, Bool.and_eq_true, decide_eq_true_eq] at h
      simp only [xm_lay, List.map_cons, xm_lay_dv M R hM hR r (j + 1) h.2, xm_f, hM, h.1]
      rfl
    | long x =>
      simp only [xm_dvb, Bool.and_eq_true, decide_eq_true_eq] at h
      simp only [xm_lay, List.map_cons, xm_lay_dv M R hM hR r (j + 1) h.2, xm_f, hM, h.1]
      rfl
    | null =>
      simp only [xm_dvb] at h
      simp only [xm_lay, List.map_cons, xm_lay_dv M R hM hR r (j + 1) h, xm_f, hR]
      rfl
    | _ => simp [xm_dvb] at h
theorem xm_ci_eq (z : Int) (k : Int → Prop) : xm_ci z k = k z := by
  unfold xm_ci
  cases z <;> (dsimp only; rw [mm_fn_eq]; rfl)
theorem xm_ofNat (n : Nat) : Int32.ofInt (n : Int) = Int32.ofNat n := rfl
theorem x_char {n : Nat} (h : n ≤ 65535) : (Int32.ofNat n).toUInt32.toUInt16.toUInt32.toInt32 = Int32.ofNat n := by
  apply Int32.toBitVec_inj.mp
  apply BitVec.eq_of_toNat_eq
  simp
  omega
theorem xm_arr_ok {K0 : List xk} {t q : Nat} {s : xs} {i : Int} {X : Prop} (h : xm_arr K0 t q s i X) : ∃ n, xm_kd K0 q s.1 = some (.inl (t, n)) ∧ (0 ≤ i ∧ i < (n : Int)) ∧ X := by
  unfold xm_arr at h
  split at h
  · rename_i t' n hk
    split at h
    · rename_i hb
      have : t' = t := Nat.eq_of_beq_eq_true hb
      subst this
      exact ⟨n, hk, h⟩
    · exact h.elim
  · exact h.elim
theorem x_up_in {M : Nat → Int → Int} {q : Nat} {i z : Int} {A : Int → Prop} (h : ∀ j, A (M q j)) (hz : A z) (j : Int) : A (x_up M q i z q j) := by
  unfold x_up
  split
  · exact hz
  · exact h j
theorem x_up_f {M : Nat → Int → Int} {q : Nat} {i z : Int} (h0 : 0 ≤ i) (hi : i32 i) : (fun j : Nat => Int32.ofInt (x_up M q i z q (j : Int))) = upd (fun j => Int32.ofInt (M q (j : Int))) (Int32.ofInt i).toNatClampNeg (Int32.ofInt z) := by
  funext j
  rw [i32_clamp hi]
  unfold x_up upd
  by_cases h : j = i.toNat
  · rw [if_pos ⟨rfl, by omega⟩, if_pos h]
  · rw [if_neg (fun h' => h (by omega)), if_neg h]
theorem x_up_fL {M : Nat → Int → Int} {q : Nat} {i z : Int} (h0 : 0 ≤ i) (hi : i32 i) : (fun j : Nat => Int64.ofInt (x_up M q i z q (j : Int))) = vp_updL (fun j => Int64.ofInt (M q (j : Int))) (Int32.ofInt i).toNatClampNeg (Int64.ofInt z) := by
  funext j
  rw [i32_clamp hi]
  unfold x_up vp_updL
  by_cases h : j = i.toNat
  · rw [if_pos ⟨rfl, by omega⟩, if_pos h]
  · rw [if_neg (fun h' => h (by omega)), if_neg h]
theorem x_upR_f {R : Nat → Int → Option Nat} {q : Nat} {i : Int} {z : Option Nat} (h0 : 0 ≤ i) (hi : i32 i) : (fun j : Nat => x_upR R q i z q (j : Int)) = va_up (fun j => R q (j : Int)) (Int32.ofInt i).toNatClampNeg z := by
  funext j
  rw [i32_clamp hi]
  unfold x_upR va_up
  by_cases h : j = i.toNat
  · rw [if_pos ⟨rfl, by omega⟩, if_pos h]
  · rw [if_neg (fun h' => h (by omega)), if_neg h]
/-- a field that changes -/
theorem xm_put_f {M M' : Int → Int} {R R' : Int → Option Nat} {fs : List (Nat × Nat × Int)} {j : Nat} {f : Nat × Nat × Int} {v : Value} (hf : fs[j]? = some f) (hn : ∀ (i : Nat) g, fs[i]? = some g → g.2.2 = (i : Int)) (hM : ∀ i : Int, i ≠ j → M' i = M i) (hR : ∀ i : Int, i ≠ j → R' i = R i) (hv : xm_f M' R' f = v) : fs.map (xm_f M' R') = (fs.map (xm_f M R)).set j v := by
  apply List.ext_getElem?
  intro i
  by_cases hi : i = j
  · subst hi
    rw [List.getElem?_set_self (by rw [List.length_map]; exact (List.getElem?_eq_some_iff.mp hf).1), List.getElem?_map, hf]
    simp only [Option.map_some, hv]
  · rw [List.getElem?_set_ne (fun h' => hi h'.symm), List.getElem?_map, List.getElem?_map]
    cases hg : fs[i]? with
    | none => rfl
    | some g =>
      have h1 := hn i g hg
      have e : ((i : Int)) ≠ (j : Int) := by omega
      simp only [Option.map_some, xm_f, h1, hM _ e, hR _ e]
section XmStep
variable {P : mm_P} {eX : Nat → Nat × (Nat → Int32)} {K0 : List xk} {c0 : Nat} {call : xC} {call' : mm_Call} {k : Nat} {nx : xZ} {Q : xK} {Z : mm_Z}
theorem xm_inv_ok (hc : mm_cmo call') (hcall : ∀ k as s Q, call k as s Q → xm_ok K0 c0 s → xm_okS as → call' k (as.map xm_c) (xm_g K0 c0 s) s.2.2.2.2 (xm_Q K0 c0 Q)) (hnx : ∀ pc ls st s, nx pc ls st s → xm_ok K0 c0 s → xm_okL ls → xm_okS st → Z pc (xm_L ls) (st.map xm_c) (xm_g K0 c0 s) s.2.2.2.2)
    {k' na : Nat} {chk : List xv → Bool} {chk' : List Value → Bool} {pc : Nat} {ls : List (Nat × xv)} {st : List xv} {s : xs} (ok : xm_ok K0 c0 s) (ol : xm_okL ls) (os : xm_okS st) (hk : ∀ as, chk as = true → chk' (as.map xm_c) = true) (h : xm_inv P call k nx Q k' na chk pc ls st s) :
    match mm_take na [] (st.map xm_c) with
    | some (as, r) => match decide (mm_cats r + mm_kl P k' + 11 ≤ 64 ∧ mm_cats as ≤ mm_kl P k') && chk' as with
      | true => call' k' as (xm_g K0 c0 s) s.2.2.2.2 (mm_back P k (fun pc st g sl => Z pc (xm_L ls) st g sl) (xm_Q K0 c0 Q) pc r)
      | false => False
    | none => False := by
  unfold xm_inv at h
  have e := xm_take_map na [] st
  rw [List.map_nil] at e
  rw [e]
  split at h
  · rename_i as r ht
    obtain ⟨oa, or⟩ := xm_take_ok _ _ _ _ _ ht (fun _ h => by cases h) os
    simp only [ht, Option.map_some, xm_cats_map]
    split at h
    · rename_i hd
      rw [Bool.and_eq_true] at hd
      simp only [hd.1, hk _ hd.2, Bool.and_self]
      refine hc _ _ _ _ _ _ ?_ (hcall _ _ _ _ h ok oa)
      rintro o g sl ⟨o', s', rfl, rfl, rfl, ok', oo, hq⟩
      unfold mm_back xm_co
      unfold xm_back at hq
      rcases o' with v | x
      · have ov : xm_okS v.toList := by
          rcases v with _ | v
          · intro w hw
            cases hw
          · intro w hw
            rw [Option.toList_some, List.mem_singleton] at hw
            rw [hw]
            exact oo
        have := hnx _ _ _ _ hq ok' ol (xo_app ov or)
        rw [List.map_append] at this
        cases v <;> exact this
      · dsimp only at hq ⊢
        split at hq
        · rename_i hh hkh
          simp only [hkh]
          exact ⟨hq.1, hnx _ _ _ _ hq.2 ok' ol (xo_cons trivial (fun _ h => by cases h))⟩
        · rename_i hkh
          simp only [hkh]
          exact ⟨.inr x, s', rfl, rfl, rfl, ok', trivial, hq⟩
    · exact h.elim
  · exact h.elim
set_option maxHeartbeats 4000000 in
theorem xm_s_ok (hE : ∀ j, (eX j).1 ≤ 1000000) (hc : mm_cmo call') (hcall : ∀ k as s Q, call k as s Q → xm_ok K0 c0 s → xm_okS as → call' k (as.map xm_c) (xm_g K0 c0 s) s.2.2.2.2 (xm_Q K0 c0 Q)) (hnx : ∀ pc ls st s, nx pc ls st s → xm_ok K0 c0 s → xm_okL ls → xm_okS st → Z pc (xm_L ls) (st.map xm_c) (xm_g K0 c0 s) s.2.2.2.2)
    {ins : Instr} {pc : Nat} {ls : List (Nat × xv)} {st : List xv} {s : xs} (ok : xm_ok K0 c0 s) (ol : xm_okL ls) (os : xm_okS st) (h : xm_s P eX K0 c0 call k nx Q ins pc ls st s) :
    mm_or (mm_s1 (mm_kl P k) (fun pc ls st => Z pc ls st (xm_g K0 c0 s) s.2.2.2.2) ins pc (xm_L ls) (st.map xm_c)) (mm_or (mm_s2 P k eX (fun pc st g sl => Z pc (xm_L ls) st g sl) ins pc (st.map xm_c) (xm_g K0 c0 s) s.2.2.2.2) (mm_s3 P call' k (fun pc st g sl => Z pc (xm_L ls) st g sl) (xm_Q K0 c0 Q) ins pc (st.map xm_c) (xm_g K0 c0 s) s.2.2.2.2)) := by
  cases ins with
  | iconst n =>
    unfold xm_s at h
    dsimp only at h
    split at h
    · rename_i hd
      have hd := of_decide_eq_true hd
      exact hnx _ _ _ _ h ok ol (xo_cons (show i32 n from ⟨by omega, by omega⟩) os)
    · exact h.elim
  | bipush n =>
    unfold xm_s at h
    dsimp only at h
    split at h
    · rename_i hd
      have hd := of_decide_eq_true hd
      have e : (Int8.ofInt n).toInt32 = Int32.ofInt n := by
        refine i32_w ?_
        rw [Int8.toInt_toInt32, Int8.toInt_ofInt]
        show n.bmod 256 = n
        exact Int.bmod_eq_of_le_mul_two (by omega) (by omega)
      show Z (pc + 2) (xm_L ls) (.int (Int8.ofInt n).toInt32 :: st.map xm_c) _ _
      rw [e]
      exact hnx _ _ _ _ h ok ol (xo_cons (show i32 n from ⟨by omega, by omega⟩) os)
    · exact h.elim
  | sipush n =>
    unfold xm_s at h
    dsimp only at h
    split at h
    · rename_i hd
      have hd := of_decide_eq_true hd
      have e : (Int16.ofInt n).toInt32 = Int32.ofInt n := by
        refine i32_w ?_
        rw [Int16.toInt_toInt32, Int16.toInt_ofInt]
        show n.bmod 65536 = n
        exact Int.bmod_eq_of_le_mul_two (by omega) (by omega)
      show Z (pc + 3) (xm_L ls) (.int (Int16.ofInt n).toInt32 :: st.map xm_c) _ _
      rw [e]
      exact hnx _ _ _ _ h ok ol (xo_cons (show i32 n from ⟨by omega, by omega⟩) os)
    · exact h.elim
  | lconst n =>
    have h01 : (n : Nat) = 0 ∨ (n : Nat) = 1 := by have := n.isLt; omega
    unfold xm_s at h
    dsimp only at h
    show Z (pc + 1) (xm_L ls) (.long (Int64.ofNat (n : Nat)) :: st.map xm_c) _ _
    rcases h01 with e | e
    · rw [show decide ((n : Nat) = 0) = true from decide_eq_true e] at h
      rw [e]
      exact hnx _ _ _ _ h ok ol (xo_cons i64_00 os)
    · rw [show decide ((n : Nat) = 0) = false from decide_eq_false (by omega)] at h
      rw [e]
      exact hnx _ _ _ _ h ok ol (xo_cons (show i64 1 from ⟨by decide, by decide⟩) os)
  | aconst_null =>
    exact hnx _ _ _ _ h ok ol (xo_cons trivial os)
  | iload_n j =>
    change xm_ldg nx ls (j : Nat) 0 (pc + 1) st s at h
    unfold xm_ldg at h
    split at h
    · rename_i v hg
      have hg2 : mm_get (xm_L ls) (j : Nat) = some (xm_c v) := by rw [xm_get_L, hg]; rfl
      dsimp only [mm_s1, mm_con, mm_ld]
      rw [hg2]
      split at h
      · rename_i hk
        rcases v with v | v | (_ | v) <;> first | (cases hk; done) | exact hnx _ _ _ _ h ok ol (xo_cons (xm_get_ok ol hg) os)
      · exact h.elim
    · exact h.elim
  | iload j =>
    change xm_ldg nx ls j 0 (pc + 2) st s at h
    unfold xm_ldg at h
    split at h
    · rename_i v hg
      have hg2 : mm_get (xm_L ls) j = some (xm_c v) := by rw [xm_get_L, hg]; rfl
      dsimp only [mm_s1, mm_con, mm_ld]
      rw [hg2]
      split at h
      · rename_i hk
        rcases v with v | v | (_ | v) <;> first | (cases hk; done) | exact hnx _ _ _ _ h ok ol (xo_cons (xm_get_ok ol hg) os)
      · exact h.elim
    · exact h.elim
  | lload_n j =>
    change xm_ldg nx ls (j : Nat) 1 (pc + 1) st s at h
    unfold xm_ldg at h
    split at h
    · rename_i v hg
      have hg2 : mm_get (xm_L ls) (j : Nat) = some (xm_c v) := by rw [xm_get_L, hg]; rfl
      dsimp only [mm_s1, mm_con, mm_ld]
      rw [hg2]
      split at h
      · rename_i hk
        rcases v with v | v | (_ | v) <;> first | (cases hk; done) | exact hnx _ _ _ _ h ok ol (xo_cons (xm_get_ok ol hg) os)
      · exact h.elim
    · exact h.elim
  | lload j =>
    change xm_ldg nx ls j 1 (pc + 2) st s at h
    unfold xm_ldg at h
    split at h
    · rename_i v hg
      have hg2 : mm_get (xm_L ls) j = some (xm_c v) := by rw [xm_get_L, hg]; rfl
      dsimp only [mm_s1, mm_con, mm_ld]
      rw [hg2]
      split at h
      · rename_i hk
        rcases v with v | v | (_ | v) <;> first | (cases hk; done) | exact hnx _ _ _ _ h ok ol (xo_cons (xm_get_ok ol hg) os)
      · exact h.elim
    · exact h.elim
  | aload_n j =>
    change xm_ldg nx ls (j : Nat) 2 (pc + 1) st s at h
    unfold xm_ldg at h
    split at h
    · rename_i v hg
      have hg2 : mm_get (xm_L ls) (j : Nat) = some (xm_c v) := by rw [xm_get_L, hg]; rfl
      dsimp only [mm_s1, mm_con, mm_ld]
      rw [hg2]
      split at h
      · rename_i hk
        rcases v with v | v | (_ | v) <;> first | (cases hk; done) | exact hnx _ _ _ _ h ok ol (xo_cons (xm_get_ok ol hg) os)
      · exact h.elim
    · exact h.elim
  | aload j =>
    change xm_ldg nx ls j 2 (pc + 2) st s at h
    unfold xm_ldg at h
    split at h
    · rename_i v hg
      have hg2 : mm_get (xm_L ls) j = some (xm_c v) := by rw [xm_get_L, hg]; rfl
      dsimp only [mm_s1, mm_con, mm_ld]
      rw [hg2]
      split at h
      · rename_i hk
        rcases v with v | v | (_ | v) <;> first | (cases hk; done) | exact hnx _ _ _ _ h ok ol (xo_cons (xm_get_ok ol hg) os)
      · exact h.elim
    · exact h.elim
  | istore_n j =>
    change xm_stg (mm_kl P k) nx ls (j : Nat) 0 (pc + 1) st s at h
    unfold xm_stg at h
    rcases st with _ | ⟨v, r⟩
    · exact h.elim
    dsimp only at h
    split at h
    · rename_i hk
      split at h
      · rename_i hd
        have hd := of_decide_eq_true hd
        have hz := hnx _ _ _ _ h ok (xm_set1_ok ol (xo_hd os)) (xo_tl os)
        rw [← xm_set1_L] at hz
        rcases v with v | v | (_ | v) <;> first | (cases hk; done) | (show mm_or (match decide ((j : Nat) + _ ≤ mm_kl P k) with | true => some (Z (pc + 1) _ (r.map xm_c) _ _) | false => some False) _; rw [xm_c_cat, decide_eq_true hd]; exact hz)
      · exact h.elim
    · exact h.elim
  | istore j =>
    change xm_stg (mm_kl P k) nx ls j 0 (pc + 2) st s at h
    unfold xm_stg at h
    rcases st with _ | ⟨v, r⟩
    · exact h.elim
    dsimp only at h
    split at h
    · rename_i hk
      split at h
      · rename_i hd
        have hd := of_decide_eq_true hd
        have hz := hnx _ _ _ _ h ok (xm_set1_ok ol (xo_hd os)) (xo_tl os)
        rw [← xm_set1_L] at hz
        rcases v with v | v | (_ | v) <;> first | (cases hk; done) | (show mm_or (match decide (j + _ ≤ mm_kl P k) with | true => some (Z (pc + 2) _ (r.map xm_c) _ _) | false => some False) _; rw [xm_c_cat, decide_eq_true hd]; exact hz)
      · exact h.elim
    · exact h.elim
  | lstore_n j =>
    change xm_stg (mm_kl P k) nx ls (j : Nat) 1 (pc + 1) st s at h
    unfold xm_stg at h
    rcases st with _ | ⟨v, r⟩
    · exact h.elim
    dsimp only at h
    split at h
    · rename_i hk
      split at h
      · rename_i hd
        have hd := of_decide_eq_true hd
        have hz := hnx _ _ _ _ h ok (xm_set2_ok ol (xo_hd os)) (xo_tl os)
        rw [← xm_set2_L] at hz
        rcases v with v | v | (_ | v) <;> first | (cases hk; done) | (show mm_or (match decide ((j : Nat) + _ ≤ mm_kl P k) with | true => some (Z (pc + 1) _ (r.map xm_c) _ _) | false => some False) _; rw [xm_c_cat, decide_eq_true hd]; exact hz)
      · exact h.elim
    · exact h.elim
  | lstore j =>
    change xm_stg (mm_kl P k) nx ls j 1 (pc + 2) st s at h
    unfold xm_stg at h
    rcases st with _ | ⟨v, r⟩
    · exact h.elim
    dsimp only at h
    split at h
    · rename_i hk
      split at h
      · rename_i hd
        have hd := of_decide_eq_true hd
        have hz := hnx _ _ _ _ h ok (xm_set2_ok ol (xo_hd os)) (xo_tl os)
        rw [← xm_set2_L] at hz
        rcases v with v | v | (_ | v) <;> first | (cases hk; done) | (show mm_or (match decide (j + _ ≤ mm_kl P k) with | true => some (Z (pc + 2) _ (r.map xm_c) _ _) | false => some False) _; rw [xm_c_cat, decide_eq_true hd]; exact hz)
      · exact h.elim
    · exact h.elim
  | astore_n j =>
    change xm_stg (mm_kl P k) nx ls (j : Nat) 2 (pc + 1) st s at h
    unfold xm_stg at h
    rcases st with _ | ⟨v, r⟩
    · exact h.elim
    dsimp only at h
    split at h
    · rename_i hk
      split at h
      · rename_i hd
        have hd := of_decide_eq_true hd
        have hz := hnx _ _ _ _ h ok (xm_set1_ok ol (xo_hd os)) (xo_tl os)
        rw [← xm_set1_L] at hz
        rcases v with v | v | (_ | v) <;> first | (cases hk; done) | (show mm_or (match decide ((j : Nat) + _ ≤ mm_kl P k) with | true => some (Z (pc + 1) _ (r.map xm_c) _ _) | false => some False) _; rw [xm_c_cat, decide_eq_true hd]; exact hz)
      · exact h.elim
    · exact h.elim
  | astore j =>
    change xm_stg (mm_kl P k) nx ls j 2 (pc + 2) st s at h
    unfold xm_stg at h
    rcases st with _ | ⟨v, r⟩
    · exact h.elim
    dsimp only at h
    split at h
    · rename_i hk
      split at h
      · rename_i hd
        have hd := of_decide_eq_true hd
        have hz := hnx _ _ _ _ h ok (xm_set1_ok ol (xo_hd os)) (xo_tl os)
        rw [← xm_set1_L] at hz
        rcases v with v | v | (_ | v) <;> first | (cases hk; done) | (show mm_or (match decide (j + _ ≤ mm_kl P k) with | true => some (Z (pc + 2) _ (r.map xm_c) _ _) | false => some False) _; rw [xm_c_cat, decide_eq_true hd]; exact hz)
      · exact h.elim
    · exact h.elim
  | iadd =>
    rcases st with _ | ⟨y | y | y, _ | ⟨x | x | x, r⟩⟩ <;> try exact False.elim h
    show Z (pc + 1) (xm_L ls) (.int (Int32.ofInt x + Int32.ofInt y) :: r.map xm_c) _ _
    rw [i32_add]
    exact hnx _ _ _ _ h ok ol (xo_cons (w32_in _) (xo_tl (xo_tl os)))
  | isub =>
    rcases st with _ | ⟨y | y | y, _ | ⟨x | x | x, r⟩⟩ <;> try exact False.elim h
    show Z (pc + 1) (xm_L ls) (.int (Int32.ofInt x - Int32.ofInt y) :: r.map xm_c) _ _
    rw [i32_sub]
    exact hnx _ _ _ _ h ok ol (xo_cons (w32_in _) (xo_tl (xo_tl os)))
  | imul =>
    rcases st with _ | ⟨y | y | y, _ | ⟨x | x | x, r⟩⟩ <;> try exact False.elim h
    show Z (pc + 1) (xm_L ls) (.int (Int32.ofInt x * Int32.ofInt y) :: r.map xm_c) _ _
    rw [i32_mul]
    exact hnx _ _ _ _ h ok ol (xo_cons (w32_in _) (xo_tl (xo_tl os)))
  | iand =>
    rcases st with _ | ⟨y | y | y, _ | ⟨x | x | x, r⟩⟩ <;> try exact False.elim h
    show Z (pc + 1) (xm_L ls) (.int (Int32.ofInt x &&& Int32.ofInt y) :: r.map xm_c) _ _
    rw [← i32_back (Int32.ofInt x &&& Int32.ofInt y)]
    exact hnx _ _ _ _ h ok ol (xo_cons (i32_x _) (xo_tl (xo_tl os)))
  | ior =>
    rcases st with _ | ⟨y | y | y, _ | ⟨x | x | x, r⟩⟩ <;> try exact False.elim h
    show Z (pc + 1) (xm_L ls) (.int (Int32.ofInt x ||| Int32.ofInt y) :: r.map xm_c) _ _
    rw [← i32_back (Int32.ofInt x ||| Int32.ofInt y)]
    exact hnx _ _ _ _ h ok ol (xo_cons (i32_x _) (xo_tl (xo_tl os)))
  | ixor =>
    rcases st with _ | ⟨y | y | y, _ | ⟨x | x | x, r⟩⟩ <;> try exact False.elim h
    show Z (pc + 1) (xm_L ls) (.int (Int32.ofInt x ^^^ Int32.ofInt y) :: r.map xm_c) _ _
    rw [← i32_back (Int32.ofInt x ^^^ Int32.ofInt y)]
    exact hnx _ _ _ _ h ok ol (xo_cons (i32_x _) (xo_tl (xo_tl os)))
  | ishl =>
    rcases st with _ | ⟨y | y | y, _ | ⟨x | x | x, r⟩⟩ <;> try exact False.elim h
    show Z (pc + 1) (xm_L ls) (.int (Int32.ofInt x <<< (Int32.ofInt y &&& 31)) :: r.map xm_c) _ _
    rw [← i32_back (Int32.ofInt x <<< (Int32.ofInt y &&& 31))]
    exact hnx _ _ _ _ h ok ol (xo_cons (i32_x _) (xo_tl (xo_tl os)))
  | ishr =>
    rcases st with _ | ⟨y | y | y, _ | ⟨x | x | x, r⟩⟩ <;> try exact False.elim h
    show Z (pc + 1) (xm_L ls) (.int (Int32.ofInt x >>> (Int32.ofInt y &&& 31)) :: r.map xm_c) _ _
    rw [← i32_back (Int32.ofInt x >>> (Int32.ofInt y &&& 31))]
    exact hnx _ _ _ _ h ok ol (xo_cons (i32_x _) (xo_tl (xo_tl os)))
  | iushr =>
    rcases st with _ | ⟨y | y | y, _ | ⟨x | x | x, r⟩⟩ <;> try exact False.elim h
    show Z (pc + 1) (xm_L ls) (.int (((Int32.ofInt x).toUInt32 >>> ((Int32.ofInt y).toUInt32 &&& Int32.toUInt32 31)).toInt32) :: r.map xm_c) _ _
    rw [← i32_back (((Int32.ofInt x).toUInt32 >>> ((Int32.ofInt y).toUInt32 &&& Int32.toUInt32 31)).toInt32)]
    exact hnx _ _ _ _ h ok ol (xo_cons (i32_x _) (xo_tl (xo_tl os)))
  | ladd =>
    rcases st with _ | ⟨y | y | y, _ | ⟨x | x | x, r⟩⟩ <;> try exact False.elim h
    show Z (pc + 1) (xm_L ls) (.long (Int64.ofInt x + Int64.ofInt y) :: r.map xm_c) _ _
    rw [i64_add]
    exact hnx _ _ _ _ h ok ol (xo_cons (w64_in _) (xo_tl (xo_tl os)))
  | lsub =>
    rcases st with _ | ⟨y | y | y, _ | ⟨x | x | x, r⟩⟩ <;> try exact False.elim h
    show Z (pc + 1) (xm_L ls) (.long (Int64.ofInt x - Int64.ofInt y) :: r.map xm_c) _ _
    rw [i64_sub]
    exact hnx _ _ _ _ h ok ol (xo_cons (w64_in _) (xo_tl (xo_tl os)))
  | lmul =>
    rcases st with _ | ⟨y | y | y, _ | ⟨x | x | x, r⟩⟩ <;> try exact False.elim h
    show Z (pc + 1) (xm_L ls) (.long (Int64.ofInt x * Int64.ofInt y) :: r.map xm_c) _ _
    rw [i64_mul]
    exact hnx _ _ _ _ h ok ol (xo_cons (w64_in _) (xo_tl (xo_tl os)))
  | land =>
    rcases st with _ | ⟨y | y | y, _ | ⟨x | x | x, r⟩⟩ <;> try exact False.elim h
    show Z (pc + 1) (xm_L ls) (.long (Int64.ofInt x &&& Int64.ofInt y) :: r.map xm_c) _ _
    rw [← i64_back (Int64.ofInt x &&& Int64.ofInt y)]
    exact hnx _ _ _ _ h ok ol (xo_cons (i64_x _) (xo_tl (xo_tl os)))
  | lor =>
    rcases st with _ | ⟨y | y | y, _ | ⟨x | x | x, r⟩⟩ <;> try exact False.elim h
    show Z (pc + 1) (xm_L ls) (.long (Int64.ofInt x ||| Int64.ofInt y) :: r.map xm_c) _ _
    rw [← i64_back (Int64.ofInt x ||| Int64.ofInt y)]
    exact hnx _ _ _ _ h ok ol (xo_cons (i64_x _) (xo_tl (xo_tl os)))
  | lxor =>
    rcases st with _ | ⟨y | y | y, _ | ⟨x | x | x, r⟩⟩ <;> try exact False.elim h
    show Z (pc + 1) (xm_L ls) (.long (Int64.ofInt x ^^^ Int64.ofInt y) :: r.map xm_c) _ _
    rw [← i64_back (Int64.ofInt x ^^^ Int64.ofInt y)]
    exact hnx _ _ _ _ h ok ol (xo_cons (i64_x _) (xo_tl (xo_tl os)))
  | idiv =>
    rcases st with _ | ⟨y | y | y, _ | ⟨x | x | x, r⟩⟩ <;> try exact False.elim h
    show ¬ Int32.ofInt y = 0 ∧ Z (pc + 1) (xm_L ls) (.int (Int32.ofInt x / Int32.ofInt y) :: r.map xm_c) _ _
    have hy : i32 y := xo_hd os
    have hx : i32 x := xo_hd (xo_tl os)
    rw [i32_div hx hy]
    exact ⟨fun q => h.1 ((i32_eq hy i32_00).mp q), hnx _ _ _ _ h.2 ok ol (xo_cons (w32_in _) (xo_tl (xo_tl os)))⟩
  | irem =>
    rcases st with _ | ⟨y | y | y, _ | ⟨x | x | x, r⟩⟩ <;> try exact False.elim h
    show ¬ Int32.ofInt y = 0 ∧ Z (pc + 1) (xm_L ls) (.int (Int32.ofInt x - Int32.ofInt x / Int32.ofInt y * Int32.ofInt y) :: r.map xm_c) _ _
    have hy : i32 y := xo_hd os
    have hx : i32 x := xo_hd (xo_tl os)
    rw [i32_rem hx hy]
    exact ⟨fun q => h.1 ((i32_eq hy i32_00).mp q), hnx _ _ _ _ h.2 ok ol (xo_cons (w32_in _) (xo_tl (xo_tl os)))⟩
  | ldiv =>
    rcases st with _ | ⟨y | y | y, _ | ⟨x | x | x, r⟩⟩ <;> try exact False.elim h
    show ¬ Int64.ofInt y = 0 ∧ Z (pc + 1) (xm_L ls) (.long (Int64.ofInt x / Int64.ofInt y) :: r.map xm_c) _ _
    have hy : i64 y := xo_hd os
    have hx : i64 x := xo_hd (xo_tl os)
    rw [i64_div hx hy]
    exact ⟨fun q => h.1 ((i64_eq hy i64_00).mp q), hnx _ _ _ _ h.2 ok ol (xo_cons (w64_in _) (xo_tl (xo_tl os)))⟩
  | lrem =>
    rcases st with _ | ⟨y | y | y, _ | ⟨x | x | x, r⟩⟩ <;> try exact False.elim h
    show ¬ Int64.ofInt y = 0 ∧ Z (pc + 1) (xm_L ls) (.long (Int64.ofInt x - Int64.ofInt x / Int64.ofInt y * Int64.ofInt y) :: r.map xm_c) _ _
    have hy : i64 y := xo_hd os
    have hx : i64 x := xo_hd (xo_tl os)
    rw [i64_rem hx hy]
    exact ⟨fun q => h.1 ((i64_eq hy i64_00).mp q), hnx _ _ _ _ h.2 ok ol (xo_cons (w64_in _) (xo_tl (xo_tl os)))⟩
  | ineg =>
    rcases st with _ | ⟨x | x | x, r⟩ <;> try exact False.elim h
    show Z (pc + 1) (xm_L ls) (.int (-Int32.ofInt x) :: r.map xm_c) _ _
    rw [i32_neg]
    exact hnx _ _ _ _ h ok ol (xo_cons (w32_in _) (xo_tl os))
  | i2c =>
    rcases st with _ | ⟨x | x | x, r⟩ <;> try exact False.elim h
    show Z (pc + 1) (xm_L ls) (.int ((Int32.ofInt x).toUInt32 % 65536).toInt32 :: r.map xm_c) _ _
    rw [← i32_back ((Int32.ofInt x).toUInt32 % 65536).toInt32]
    exact hnx _ _ _ _ h ok ol (xo_cons (i32_x _) (xo_tl os))
  | i2b =>
    rcases st with _ | ⟨x | x | x, r⟩ <;> try exact False.elim h
    show Z (pc + 1) (xm_L ls) (.int (Int32.ofInt x).toInt8.toInt32 :: r.map xm_c) _ _
    rw [← i32_back (Int32.ofInt x).toInt8.toInt32]
    exact hnx _ _ _ _ h ok ol (xo_cons (i32_x _) (xo_tl os))
  | i2s =>
    rcases st with _ | ⟨x | x | x, r⟩ <;> try exact False.elim h
    show Z (pc + 1) (xm_L ls) (.int (Int32.ofInt x).toInt16.toInt32 :: r.map xm_c) _ _
    rw [← i32_back (Int32.ofInt x).toInt16.toInt32]
    exact hnx _ _ _ _ h ok ol (xo_cons (i32_x _) (xo_tl os))
  | i2l =>
    rcases st with _ | ⟨x | x | x, r⟩ <;> try exact False.elim h
    have hx : i32 x := xo_hd os
    have hl : i64 x := ⟨by have := hx.1; omega, by have := hx.2; omega⟩
    show Z (pc + 1) (xm_L ls) (.long (Int32.ofInt x).toInt64 :: r.map xm_c) _ _
    rw [show (Int32.ofInt x).toInt64 = Int64.ofInt x from i64_w (by rw [Int32.toInt_toInt64, i32_to hx])]
    exact hnx _ _ _ _ h ok ol (xo_cons hl (xo_tl os))
  | l2i =>
    rcases st with _ | ⟨x | x | x, r⟩ <;> try exact False.elim h
    have hx : i64 x := xo_hd os
    show Z (pc + 1) (xm_L ls) (.int (Int64.ofInt x).toInt32 :: r.map xm_c) _ _
    rw [show (Int64.ofInt x).toInt32 = Int32.ofInt (w32 x) from i32_w (by rw [Int64.toInt_toInt32, i64_to hx, w32_bmod])]
    exact hnx _ _ _ _ h ok ol (xo_cons (w32_in _) (xo_tl os))
  | lneg =>
    rcases st with _ | ⟨x | x | x, r⟩ <;> try exact False.elim h
    show Z (pc + 1) (xm_L ls) (.long (-Int64.ofInt x) :: r.map xm_c) _ _
    rw [i64_neg]
    exact hnx _ _ _ _ h ok ol (xo_cons (w64_in _) (xo_tl os))
  | lcmp =>
    rcases st with _ | ⟨y | y | y, _ | ⟨x | x | x, r⟩⟩ <;> try exact False.elim h
    show Z (pc + 1) (xm_L ls) (.int (lg_cmp (Int64.ofInt x) (Int64.ofInt y)) :: r.map xm_c) _ _
    rw [x_cmp_ok (xo_hd (xo_tl os)) (xo_hd os)]
    exact hnx _ _ _ _ h ok ol (xo_cons (x_cmp_in _ _) (xo_tl (xo_tl os)))
  | ifCond c o =>
    cases c with
    | eq =>
      rcases st with _ | ⟨x | x | x, r⟩ <;> try exact False.elim h
      have hx : i32 x := xo_hd os
      change xm_brg nx (x = 0) o pc ls r s at h
      show mm_or (match mm_tgt pc o with
        | some t => some ((Int32.ofInt x = 0 → Z t (xm_L ls) (r.map xm_c) _ _) ∧ (¬ (Int32.ofInt x = 0) → Z (pc + 3) (xm_L ls) (r.map xm_c) _ _))
        | none => some False) _
      unfold xm_brg at h
      split at h
      · rename_i t ht
        try rw [ht]
        exact And.intro (fun q => hnx _ _ _ _ (h.1 ((i32_eq hx i32_00).mp q)) ok ol (xo_tl os)) (fun q => hnx _ _ _ _ (h.2 (fun q' => q ((i32_eq hx i32_00).mpr q'))) ok ol (xo_tl os))
      · exact h.elim
    | ne =>
      rcases st with _ | ⟨x | x | x, r⟩ <;> try exact False.elim h
      have hx : i32 x := xo_hd os
      change xm_brg nx (¬ x = 0) o pc ls r s at h
      show mm_or (match mm_tgt pc o with
        | some t => some ((¬ Int32.ofInt x = 0 → Z t (xm_L ls) (r.map xm_c) _ _) ∧ (¬ (¬ Int32.ofInt x = 0) → Z (pc + 3) (xm_L ls) (r.map xm_c) _ _))
        | none => some False) _
      unfold xm_brg at h
      split at h
      · rename_i t ht
        try rw [ht]
        exact And.intro (fun q => hnx _ _ _ _ (h.1 ((not_congr (i32_eq hx i32_00)).mp q)) ok ol (xo_tl os)) (fun q => hnx _ _ _ _ (h.2 (fun q' => q ((not_congr (i32_eq hx i32_00)).mpr q'))) ok ol (xo_tl os))
      · exact h.elim
    | lt =>
      rcases st with _ | ⟨x | x | x, r⟩ <;> try exact False.elim h
      have hx : i32 x := xo_hd os
      change xm_brg nx (x < 0) o pc ls r s at h
      show mm_or (match mm_tgt pc o with
        | some t => some ((Int32.ofInt x < 0 → Z t (xm_L ls) (r.map xm_c) _ _) ∧ (¬ (Int32.ofInt x < 0) → Z (pc + 3) (xm_L ls) (r.map xm_c) _ _))
        | none => some False) _
      unfold xm_brg at h
      split at h
      · rename_i t ht
        try rw [ht]
        exact And.intro (fun q => hnx _ _ _ _ (h.1 ((i32_lt hx i32_00).mp q)) ok ol (xo_tl os)) (fun q => hnx _ _ _ _ (h.2 (fun q' => q ((i32_lt hx i32_00).mpr q'))) ok ol (xo_tl os))
      · exact h.elim
    | ge =>
      rcases st with _ | ⟨x | x | x, r⟩ <;> try exact False.elim h
      have hx : i32 x := xo_hd os
      change xm_brg nx (0 ≤ x) o pc ls r s at h
      show mm_or (match mm_tgt pc o with
        | some t => some ((0 ≤ Int32.ofInt x → Z t (xm_L ls) (r.map xm_c) _ _) ∧ (¬ (0 ≤ Int32.ofInt x) → Z (pc + 3) (xm_L ls) (r.map xm_c) _ _))
        | none => some False) _
      unfold xm_brg at h
      split at h
      · rename_i t ht
        try rw [ht]
        exact And.intro (fun q => hnx _ _ _ _ (h.1 ((i32_le i32_00 hx).mp q)) ok ol (xo_tl os)) (fun q => hnx _ _ _ _ (h.2 (fun q' => q ((i32_le i32_00 hx).mpr q'))) ok ol (xo_tl os))
      · exact h.elim
    | gt =>
      rcases st with _ | ⟨x | x | x, r⟩ <;> try exact False.elim h
      have hx : i32 x := xo_hd os
      change xm_brg nx (0 < x) o pc ls r s at h
      show mm_or (match mm_tgt pc o with
        | some t => some ((0 < Int32.ofInt x → Z t (xm_L ls) (r.map xm_c) _ _) ∧ (¬ (0 < Int32.ofInt x) → Z (pc + 3) (xm_L ls) (r.map xm_c) _ _))
        | none => some False) _
      unfold xm_brg at h
      split at h
      · rename_i t ht
        try rw [ht]
        exact And.intro (fun q => hnx _ _ _ _ (h.1 ((i32_lt i32_00 hx).mp q)) ok ol (xo_tl os)) (fun q => hnx _ _ _ _ (h.2 (fun q' => q ((i32_lt i32_00 hx).mpr q'))) ok ol (xo_tl os))
      · exact h.elim
    | le =>
      rcases st with _ | ⟨x | x | x, r⟩ <;> try exact False.elim h
      have hx : i32 x := xo_hd os
      change xm_brg nx (x ≤ 0) o pc ls r s at h
      show mm_or (match mm_tgt pc o with
        | some t => some ((Int32.ofInt x ≤ 0 → Z t (xm_L ls) (r.map xm_c) _ _) ∧ (¬ (Int32.ofInt x ≤ 0) → Z (pc + 3) (xm_L ls) (r.map xm_c) _ _))
        | none => some False) _
      unfold xm_brg at h
      split at h
      · rename_i t ht
        try rw [ht]
        exact And.intro (fun q => hnx _ _ _ _ (h.1 ((i32_le hx i32_00).mp q)) ok ol (xo_tl os)) (fun q => hnx _ _ _ _ (h.2 (fun q' => q ((i32_le hx i32_00).mpr q'))) ok ol (xo_tl os))
      · exact h.elim
  | if_icmp c o =>
    cases c with
    | eq =>
      rcases st with _ | ⟨y | y | y, _ | ⟨x | x | x, r⟩⟩ <;> try exact False.elim h
      have hy : i32 y := xo_hd os
      have hx : i32 x := xo_hd (xo_tl os)
      change xm_brg nx (x = y) o pc ls r s at h
      show mm_or (match mm_tgt pc o with
        | some t => some ((Int32.ofInt x = Int32.ofInt y → Z t (xm_L ls) (r.map xm_c) _ _) ∧ (¬ (Int32.ofInt x = Int32.ofInt y) → Z (pc + 3) (xm_L ls) (r.map xm_c) _ _))
        | none => some False) _
      unfold xm_brg at h
      split at h
      · rename_i t ht
        try rw [ht]
        exact And.intro (fun q => hnx _ _ _ _ (h.1 ((i32_eq hx hy).mp q)) ok ol (xo_tl (xo_tl os))) (fun q => hnx _ _ _ _ (h.2 (fun q' => q ((i32_eq hx hy).mpr q'))) ok ol (xo_tl (xo_tl os)))
      · exact h.elim
    | ne =>
      rcases st with _ | ⟨y | y | y, _ | ⟨x | x | x, r⟩⟩ <;> try exact False.elim h
      have hy : i32 y := xo_hd os
      have hx : i32 x := xo_hd (xo_tl os)
      change xm_brg nx (¬ x = y) o pc ls r s at h
      show mm_or (match mm_tgt pc o with
        | some t => some ((¬ Int32.ofInt x = Int32.ofInt y → Z t (xm_L ls) (r.map xm_c) _ _) ∧ (¬ (¬ Int32.ofInt x = Int32.ofInt y) → Z (pc + 3) (xm_L ls) (r.map xm_c) _ _))
        | none => some False) _
      unfold xm_brg at h
      split at h
      · rename_i t ht
        try rw [ht]
        exact And.intro (fun q => hnx _ _ _ _ (h.1 ((not_congr (i32_eq hx hy)).mp q)) ok ol (xo_tl (xo_tl os))) (fun q => hnx _ _ _ _ (h.2 (fun q' => q ((not_congr (i32_eq hx hy)).mpr q'))) ok ol (xo_tl (xo_tl os)))
      · exact h.elim
    | lt =>
      rcases st with _ | ⟨y | y | y, _ | ⟨x | x | x, r⟩⟩ <;> try exact False.elim h
      have hy : i32 y := xo_hd os
      have hx : i32 x := xo_hd (xo_tl os)
      change xm_brg nx (x < y) o pc ls r s at h
      show mm_or (match mm_tgt pc o with
        | some t => some ((Int32.ofInt x < Int32.ofInt y → Z t (xm_L ls) (r.map xm_c) _ _) ∧ (¬ (Int32.ofInt x < Int32.ofInt y) → Z (pc + 3) (xm_L ls) (r.map xm_c) _ _))
        | none => some False) _
      unfold xm_brg at h
      split at h
      · rename_i t ht
        try rw [ht]
        exact And.intro (fun q => hnx _ _ _ _ (h.1 ((i32_lt hx hy).mp q)) ok ol (xo_tl (xo_tl os))) (fun q => hnx _ _ _ _ (h.2 (fun q' => q ((i32_lt hx hy).mpr q'))) ok ol (xo_tl (xo_tl os)))
      · exact h.elim
    | ge =>
      rcases st with _ | ⟨y | y | y, _ | ⟨x | x | x, r⟩⟩ <;> try exact False.elim h
      have hy : i32 y := xo_hd os
      have hx : i32 x := xo_hd (xo_tl os)
      change xm_brg nx (y ≤ x) o pc ls r s at h
      show mm_or (match mm_tgt pc o with
        | some t => some ((Int32.ofInt y ≤ Int32.ofInt x → Z t (xm_L ls) (r.map xm_c) _ _) ∧ (¬ (Int32.ofInt y ≤ Int32.ofInt x) → Z (pc + 3) (xm_L ls) (r.map xm_c) _ _))
        | none => some False) _
      unfold xm_brg at h
      split at h
      · rename_i t ht
        try rw [ht]
        exact And.intro (fun q => hnx _ _ _ _ (h.1 ((i32_le hy hx).mp q)) ok ol (xo_tl (xo_tl os))) (fun q => hnx _ _ _ _ (h.2 (fun q' => q ((i32_le hy hx).mpr q'))) ok ol (xo_tl (xo_tl os)))
      · exact h.elim
    | gt =>
      rcases st with _ | ⟨y | y | y, _ | ⟨x | x | x, r⟩⟩ <;> try exact False.elim h
      have hy : i32 y := xo_hd os
      have hx : i32 x := xo_hd (xo_tl os)
      change xm_brg nx (y < x) o pc ls r s at h
      show mm_or (match mm_tgt pc o with
        | some t => some ((Int32.ofInt y < Int32.ofInt x → Z t (xm_L ls) (r.map xm_c) _ _) ∧ (¬ (Int32.ofInt y < Int32.ofInt x) → Z (pc + 3) (xm_L ls) (r.map xm_c) _ _))
        | none => some False) _
      unfold xm_brg at h
      split at h
      · rename_i t ht
        try rw [ht]
        exact And.intro (fun q => hnx _ _ _ _ (h.1 ((i32_lt hy hx).mp q)) ok ol (xo_tl (xo_tl os))) (fun q => hnx _ _ _ _ (h.2 (fun q' => q ((i32_lt hy hx).mpr q'))) ok ol (xo_tl (xo_tl os)))
      · exact h.elim
    | le =>
      rcases st with _ | ⟨y | y | y, _ | ⟨x | x | x, r⟩⟩ <;> try exact False.elim h
      have hy : i32 y := xo_hd os
      have hx : i32 x := xo_hd (xo_tl os)
      change xm_brg nx (x ≤ y) o pc ls r s at h
      show mm_or (match mm_tgt pc o with
        | some t => some ((Int32.ofInt x ≤ Int32.ofInt y → Z t (xm_L ls) (r.map xm_c) _ _) ∧ (¬ (Int32.ofInt x ≤ Int32.ofInt y) → Z (pc + 3) (xm_L ls) (r.map xm_c) _ _))
        | none => some False) _
      unfold xm_brg at h
      split at h
      · rename_i t ht
        try rw [ht]
        exact And.intro (fun q => hnx _ _ _ _ (h.1 ((i32_le hx hy).mp q)) ok ol (xo_tl (xo_tl os))) (fun q => hnx _ _ _ _ (h.2 (fun q' => q ((i32_le hx hy).mpr q'))) ok ol (xo_tl (xo_tl os)))
      · exact h.elim
  | dup =>
    unfold xm_s at h
    dsimp only at h
    split at h
    · rename_i r hs
      have e := xm_stk_map .dup st
      rw [hs] at e
      have hz := hnx _ _ _ _ h ok ol (xm_stk_ok hs os)
      dsimp only [mm_s1, mm_con, mm_ld, mm_sto, mm_bin, mm_br]
      rw [e]
      exact hz
    · exact h.elim
  | pop =>
    unfold xm_s at h
    dsimp only at h
    split at h
    · rename_i r hs
      have e := xm_stk_map .pop st
      rw [hs] at e
      have hz := hnx _ _ _ _ h ok ol (xm_stk_ok hs os)
      dsimp only [mm_s1, mm_con, mm_ld, mm_sto, mm_bin, mm_br]
      rw [e]
      exact hz
    · exact h.elim
  | dup_x1 =>
    unfold xm_s at h
    dsimp only at h
    split at h
    · rename_i r hs
      have e := xm_stk_map .dup_x1 st
      rw [hs] at e
      have hz := hnx _ _ _ _ h ok ol (xm_stk_ok hs os)
      dsimp only [mm_s1, mm_con, mm_ld, mm_sto, mm_bin, mm_br]
      rw [e]
      exact hz
    · exact h.elim
  | dup_x2 =>
    unfold xm_s at h
    dsimp only at h
    split at h
    · rename_i r hs
      have e := xm_stk_map .dup_x2 st
      rw [hs] at e
      have hz := hnx _ _ _ _ h ok ol (xm_stk_ok hs os)
      dsimp only [mm_s1, mm_con, mm_ld, mm_sto, mm_bin, mm_br]
      rw [e]
      exact hz
    · exact h.elim
  | dup2 =>
    unfold xm_s at h
    dsimp only at h
    split at h
    · rename_i r hs
      have e := xm_stk_map .dup2 st
      rw [hs] at e
      have hz := hnx _ _ _ _ h ok ol (xm_stk_ok hs os)
      dsimp only [mm_s1, mm_con, mm_ld, mm_sto, mm_bin, mm_br]
      rw [e]
      exact hz
    · exact h.elim
  | pop2 =>
    unfold xm_s at h
    dsimp only at h
    split at h
    · rename_i r hs
      have e := xm_stk_map .pop2 st
      rw [hs] at e
      have hz := hnx _ _ _ _ h ok ol (xm_stk_ok hs os)
      dsimp only [mm_s1, mm_con, mm_ld, mm_sto, mm_bin, mm_br]
      rw [e]
      exact hz
    · exact h.elim
  | dup2_x1 =>
    unfold xm_s at h
    dsimp only at h
    split at h
    · rename_i r hs
      have e := xm_stk_map .dup2_x1 st
      rw [hs] at e
      have hz := hnx _ _ _ _ h ok ol (xm_stk_ok hs os)
      dsimp only [mm_s1, mm_con, mm_ld, mm_sto, mm_bin, mm_br]
      rw [e]
      exact hz
    · exact h.elim
  | dup2_x2 =>
    unfold xm_s at h
    dsimp only at h
    split at h
    · rename_i r hs
      have e := xm_stk_map .dup2_x2 st
      rw [hs] at e
      have hz := hnx _ _ _ _ h ok ol (xm_stk_ok hs os)
      dsimp only [mm_s1, mm_con, mm_ld, mm_sto, mm_bin, mm_br]
      rw [e]
      exact hz
    · exact h.elim
  | goto o =>
    unfold xm_s at h
    dsimp only at h
    show mm_or (match mm_tgt pc o with
      | some t => some (Z t (xm_L ls) (st.map xm_c) _ _)
      | none => some False) _
    split at h
    · rename_i t ht
      try rw [ht]
      exact hnx _ _ _ _ h ok ol os
    · exact h.elim
  | iinc i c =>
    unfold xm_s at h
    dsimp only at h
    split at h
    · rename_i x hg
      have hg2 : mm_get (xm_L ls) i = some (.int (Int32.ofInt x)) := by rw [xm_get_L, hg]; rfl
      split at h
      · rename_i hd
        have hd := of_decide_eq_true hd
        have hz := hnx _ _ _ _ h ok (xm_set1_ok ol (w32_in _)) os
        rw [← xm_set1_L] at hz
        show mm_or (match mm_get (xm_L ls) i with
          | some (.int x) => match decide (i < mm_kl P k) with
            | true => some (Z (pc + 3) (mm_set1 (xm_L ls) i (.int (x + Int32.ofInt c))) (st.map xm_c) _ _)
            | false => some False
          | _ => some False) _
        rw [hg2]
        try dsimp only
        rw [decide_eq_true hd.1, i32_add]
        exact hz
      · exact h.elim
    · exact h.elim
  | ifnull o =>
    rcases st with _ | ⟨x | x | (_ | x), r⟩ <;> try exact False.elim h
    · unfold xm_s at h
      dsimp only at h
      show mm_or (match mm_tgt pc o with
        | some t => some (Z t (xm_L ls) (r.map xm_c) _ _)
        | none => some False) _
      split at h
      · rename_i t ht
        try rw [ht]
        exact hnx _ _ _ _ h ok ol (xo_tl os)
      · exact h.elim
    · exact hnx _ _ _ _ h ok ol (xo_tl os)
  | ifnonnull o =>
    rcases st with _ | ⟨x | x | (_ | x), r⟩ <;> try exact False.elim h
    · exact hnx _ _ _ _ h ok ol (xo_tl os)
    · unfold xm_s at h
      dsimp only at h
      show mm_or (match mm_tgt pc o with
        | some t => some (Z t (xm_L ls) (r.map xm_c) _ _)
        | none => some False) _
      split at h
      · rename_i t ht
        try rw [ht]
        exact hnx _ _ _ _ h ok ol (xo_tl os)
      · exact h.elim
  | getfield i =>
    rcases st with _ | ⟨v | v | (_ | _ | q), r⟩ <;> try exact False.elim h
    unfold xm_s at h
    dsimp only at h
    split at h
    · rename_i ci fs hk
      have hg := xm_g_at ok hk
      show mm_or (match (xm_g K0 c0 s)[q]? with | some (.inr (ci, fs)) => (match mm_fl P (mm_kc P k) i with | some (cj, j) => (match decide (ci = cj) with | true => (match fs[j]? with | some v => some (Z (pc + 3) (xm_L ls) (v :: r.map xm_c) _ _) | none => some False) | false => some False) | none => some False) | _ => some False) _
      rw [hg]
      show mm_or (match mm_fl P (mm_kc P k) i with | some (cj, j) => (match decide (ci = cj) with | true => (match (fs.map (xm_f (s.2.2.1 q) (s.2.2.2.1 q)))[j]? with | some v => some (Z (pc + 3) (xm_L ls) (v :: r.map xm_c) _ _) | none => some False) | false => some False) | none => some False) _
      split at h
      · rename_i cj j hfl
        try rw [hfl]
        try dsimp only
        split at h
        · rename_i hd
          try rw [hd]
          try dsimp only
          rw [List.getElem?_map]
          have hko := ok.2.2 _ _ hk
          split at h
          · rename_i z hf
            try rw [hf]
            have h3 := hko _ _ hf
            exact hnx _ _ _ _ h ok ol (xo_cons (h3.2.1 rfl) (xo_tl os))
          · rename_i z hf
            try rw [hf]
            have h3 := hko _ _ hf
            exact hnx _ _ _ _ h ok ol (xo_cons (h3.2.2 rfl) (xo_tl os))
          · rename_i p z hf
            try rw [hf]
            exact hnx _ _ _ _ h ok ol (xo_cons trivial (xo_tl os))
          · rename_i p z hf
            try rw [hf]
            split at h
            · rename_i hd
              have hd := of_decide_eq_true hd
              exact hnx _ _ _ _ h ok ol (xo_cons (show i32 (p : Int) from ⟨by omega, by omega⟩) (xo_tl os))
            · exact h.elim
          · rename_i t x z n0 n1 n2 n4 hf
            try rw [hf]
            have e : xm_f (s.2.2.1 q) (s.2.2.2.1 q) (t, x, z) = xm_c (.inr (.inr (s.2.2.2.1 q z))) := by
              unfold xm_f
              dsimp only
              split
              · exact (n0 rfl).elim
              · exact (n1 rfl).elim
              · exact (n2 rfl).elim
              · exact (n4 rfl).elim
              · rfl
            show Z (pc + 3) (xm_L ls) (xm_f (s.2.2.1 q) (s.2.2.2.1 q) (t, x, z) :: r.map xm_c) _ _
            rw [e]
            exact hnx _ _ _ _ h ok ol (xo_cons trivial (xo_tl os))
          · exact h.elim
        · exact h.elim
      · exact h.elim
    · exact h.elim
  | iaload =>
    rcases st with _ | ⟨i | i | i, _ | ⟨v | v | (_ | _ | q), r⟩⟩ <;> try exact False.elim h
    · have h32 : i32 i := xo_hd os
      refine And.intro (i32_in h32 h.1) ?_
      show Z (pc + 1) (xm_L ls) (.int ((eX 0).2 (Int32.ofInt i).toNatClampNeg) :: r.map xm_c) _ _
      rw [i32_clamp h32, ← i32_back ((eX 0).2 i.toNat)]
      exact hnx _ _ _ _ h.2 ok ol (xo_cons (i32_x _) (xo_tl (xo_tl os)))
    obtain ⟨n, hk, hi, h⟩ := xm_arr_ok h
    have hg := xm_g_at ok hk
    have h32 : i32 i := xo_hd os
    show mm_or (match (xm_g K0 c0 s)[q]? with | some (.inl (0, n, .inl f)) => some (vp_in (Int32.ofInt i) n ∧ Z (pc + 1) (xm_L ls) (.int (f (Int32.ofInt i).toNatClampNeg) :: r.map xm_c) _ _) | _ => some False) _
    rw [hg]
    have e : (((Int32.ofInt i).toNatClampNeg : Nat) : Int) = i := by rw [i32_clamp h32]; omega
    refine And.intro (i32_in h32 hi) ?_
    show Z (pc + 1) (xm_L ls) (.int (Int32.ofInt (s.2.2.1 q ((Int32.ofInt i).toNatClampNeg : Nat))) :: r.map xm_c) _ _
    rw [e]
    exact hnx _ _ _ _ h ok ol (xo_cons (xm_ok_in ok hk (.inl rfl) i) (xo_tl (xo_tl os)))
  | laload =>
    rcases st with _ | ⟨i | i | i, _ | ⟨v | v | (_ | _ | q), r⟩⟩ <;> try exact False.elim h
    obtain ⟨n, hk, hi, h⟩ := xm_arr_ok h
    have hg := xm_g_at ok hk
    have h32 : i32 i := xo_hd os
    show mm_or (match (xm_g K0 c0 s)[q]? with | some (.inl (1, n, .inr (.inl f))) => some (vp_in (Int32.ofInt i) n ∧ Z (pc + 1) (xm_L ls) (.long (f (Int32.ofInt i).toNatClampNeg) :: r.map xm_c) _ _) | _ => some False) _
    rw [hg]
    have e : (((Int32.ofInt i).toNatClampNeg : Nat) : Int) = i := by rw [i32_clamp h32]; omega
    refine And.intro (i32_in h32 hi) ?_
    show Z (pc + 1) (xm_L ls) (.long (Int64.ofInt (s.2.2.1 q ((Int32.ofInt i).toNatClampNeg : Nat))) :: r.map xm_c) _ _
    rw [e]
    exact hnx _ _ _ _ h ok ol (xo_cons (xm_ok_il ok hk i) (xo_tl (xo_tl os)))
  | caload =>
    rcases st with _ | ⟨i | i | i, _ | ⟨v | v | (_ | _ | q), r⟩⟩ <;> try exact False.elim h
    obtain ⟨n, hk, hi, h⟩ := xm_arr_ok h
    have hg := xm_g_at ok hk
    have h32 : i32 i := xo_hd os
    show mm_or (match (xm_g K0 c0 s)[q]? with | some (.inl (2, n, .inl f)) => some (vp_in (Int32.ofInt i) n ∧ Z (pc + 1) (xm_L ls) (.int (f (Int32.ofInt i).toNatClampNeg) :: r.map xm_c) _ _) | _ => some False) _
    rw [hg]
    have e : (((Int32.ofInt i).toNatClampNeg : Nat) : Int) = i := by rw [i32_clamp h32]; omega
    refine And.intro (i32_in h32 hi) ?_
    show Z (pc + 1) (xm_L ls) (.int (Int32.ofInt (s.2.2.1 q ((Int32.ofInt i).toNatClampNeg : Nat))) :: r.map xm_c) _ _
    rw [e]
    exact hnx _ _ _ _ h ok ol (xo_cons (xm_ok_in ok hk (.inr (.inl rfl)) i) (xo_tl (xo_tl os)))
  | baload =>
    rcases st with _ | ⟨i | i | i, _ | ⟨v | v | (_ | _ | q), r⟩⟩ <;> try exact False.elim h
    obtain ⟨n, hk, hi, h⟩ := xm_arr_ok h
    have hg := xm_g_at ok hk
    have h32 : i32 i := xo_hd os
    show mm_or (match (xm_g K0 c0 s)[q]? with | some (.inl (3, n, .inl f)) => some (vp_in (Int32.ofInt i) n ∧ Z (pc + 1) (xm_L ls) (.int (f (Int32.ofInt i).toNatClampNeg) :: r.map xm_c) _ _) | _ => some False) _
    rw [hg]
    have e : (((Int32.ofInt i).toNatClampNeg : Nat) : Int) = i := by rw [i32_clamp h32]; omega
    refine And.intro (i32_in h32 hi) ?_
    show Z (pc + 1) (xm_L ls) (.int (Int32.ofInt (s.2.2.1 q ((Int32.ofInt i).toNatClampNeg : Nat))) :: r.map xm_c) _ _
    rw [e]
    exact hnx _ _ _ _ h ok ol (xo_cons (xm_ok_in ok hk (.inr (.inr rfl)) i) (xo_tl (xo_tl os)))
  | aaload =>
    rcases st with _ | ⟨i | i | i, _ | ⟨v | v | (_ | _ | q), r⟩⟩ <;> try exact False.elim h
    unfold xm_s at h
    dsimp only at h
    split at h
    · rename_i t n hk
      split at h
      · rename_i hd
        have hg := xm_g_at ok hk
        have h32 : i32 i := xo_hd os
        have ht := of_decide_eq_true hd
        obtain ⟨t', rfl⟩ : ∃ t', t = t' + 4 := ⟨t - 4, by omega⟩
        show mm_or (match (xm_g K0 c0 s)[q]? with | some (.inl (t, n, .inr (.inr (.inr (.inr f))))) => (match decide (4 ≤ t ∧ t < mm_nT P) with | true => some (vp_in (Int32.ofInt i) n ∧ Z (pc + 1) (xm_L ls) (va_rf (f (Int32.ofInt i).toNatClampNeg) :: r.map xm_c) _ _) | false => some False) | _ => some False) _
        rw [hg]
        show mm_or (match decide (4 ≤ t' + 4 ∧ t' + 4 < mm_nT P) with | true => some (vp_in (Int32.ofInt i) n ∧ Z (pc + 1) (xm_L ls) (va_rf (s.2.2.2.1 q ((Int32.ofInt i).toNatClampNeg : Nat)) :: r.map xm_c) _ _) | false => some False) _
        try rw [hd]
        have e : (((Int32.ofInt i).toNatClampNeg : Nat) : Int) = i := by rw [i32_clamp h32]; have := h.1.1; omega
        refine And.intro (i32_in h32 h.1) ?_
        rw [e]
        exact hnx _ _ _ _ h.2 ok ol (xo_cons trivial (xo_tl (xo_tl os)))
      · exact h.elim
    · exact h.elim
  | iastore =>
    rcases st with _ | ⟨x | x | x, _ | ⟨i | i | i, _ | ⟨v | v | (_ | _ | q), r⟩⟩⟩ <;> try exact False.elim h
    obtain ⟨n, hk, hi, h⟩ := xm_arr_ok h
    have hg := xm_g_at ok hk
    have h32 : i32 i := xo_hd (xo_tl os)
    have hz := hnx _ _ _ _ h (xm_ok_set ok hk (fun p hp => x_up_ne hp) (by
      have := ok.2.2 _ _ hk
      exact ⟨fun ht j => x_up_in (A := i32) (this.1 ht) (by first | exact (xo_hd os : i32 _) | (rcases ht with ht | ht | ht <;> cases ht)) j, fun ht j => x_up_in (A := i64) (this.2 ht) (by first | exact (xo_hd os : i64 _) | cases ht) j⟩) s.2.2.2.2) ol (xo_tl (xo_tl (xo_tl os)))
    rw [xm_g_set ok hk (fun p hp => x_up_ne hp) (fun _ _ => rfl)] at hz
    show mm_or (match (xm_g K0 c0 s)[q]? with | some (.inl (0, n, .inl f)) => some (vp_in (Int32.ofInt i) n ∧ Z (pc + 1) (xm_L ls) (r.map xm_c) ((xm_g K0 c0 s).set q (.inl (0, n, .inl (upd f (Int32.ofInt i).toNatClampNeg (Int32.ofInt x))))) _) | _ => some False) _
    rw [hg]
    refine And.intro (i32_in h32 hi) ?_
    have e := x_up_f (M := s.2.2.1) (q := q) (z := x) hi.1 h32
    
    have hz2 : Z (pc + 1) (xm_L ls) (r.map xm_c) ((xm_g K0 c0 s).set q (.inl (0, n, .inl (fun j : Nat => Int32.ofInt (x_up s.2.2.1 q i x q (j : Int)))))) s.2.2.2.2 := hz
    rw [e] at hz2
    exact hz2
  | lastore =>
    rcases st with _ | ⟨x | x | x, _ | ⟨i | i | i, _ | ⟨v | v | (_ | _ | q), r⟩⟩⟩ <;> try exact False.elim h
    obtain ⟨n, hk, hi, h⟩ := xm_arr_ok h
    have hg := xm_g_at ok hk
    have h32 : i32 i := xo_hd (xo_tl os)
    have hz := hnx _ _ _ _ h (xm_ok_set ok hk (fun p hp => x_up_ne hp) (by
      have := ok.2.2 _ _ hk
      exact ⟨fun ht j => x_up_in (A := i32) (this.1 ht) (by first | exact (xo_hd os : i32 _) | (rcases ht with ht | ht | ht <;> cases ht)) j, fun ht j => x_up_in (A := i64) (this.2 ht) (by first | exact (xo_hd os : i64 _) | cases ht) j⟩) s.2.2.2.2) ol (xo_tl (xo_tl (xo_tl os)))
    rw [xm_g_set ok hk (fun p hp => x_up_ne hp) (fun _ _ => rfl)] at hz
    show mm_or (match (xm_g K0 c0 s)[q]? with | some (.inl (1, n, .inr (.inl f))) => some (vp_in (Int32.ofInt i) n ∧ Z (pc + 1) (xm_L ls) (r.map xm_c) ((xm_g K0 c0 s).set q (.inl (1, n, .inr (.inl (vp_updL f (Int32.ofInt i).toNatClampNeg (Int64.ofInt x)))))) _) | _ => some False) _
    rw [hg]
    refine And.intro (i32_in h32 hi) ?_
    have e := x_up_fL (M := s.2.2.1) (q := q) (z := x) hi.1 h32
    
    have hz2 : Z (pc + 1) (xm_L ls) (r.map xm_c) ((xm_g K0 c0 s).set q (.inl (1, n, .inr (.inl (fun j : Nat => Int64.ofInt (x_up s.2.2.1 q i x q (j : Int))))))) s.2.2.2.2 := hz
    rw [e] at hz2
    exact hz2
  | castore =>
    rcases st with _ | ⟨x | x | x, _ | ⟨i | i | i, _ | ⟨v | v | (_ | _ | q), r⟩⟩⟩ <;> try exact False.elim h
    obtain ⟨n, hk, hi, h⟩ := xm_arr_ok h
    have hg := xm_g_at ok hk
    have h32 : i32 i := xo_hd (xo_tl os)
    have hz := hnx _ _ _ _ h (xm_ok_set ok hk (fun p hp => x_up_ne hp) (by
      have := ok.2.2 _ _ hk
      exact ⟨fun ht j => x_up_in (A := i32) (this.1 ht) (by first | exact (i32_x _ : i32 _) | (rcases ht with ht | ht | ht <;> cases ht)) j, fun ht j => x_up_in (A := i64) (this.2 ht) (by first | exact (i32_x _ : i64 _) | cases ht) j⟩) s.2.2.2.2) ol (xo_tl (xo_tl (xo_tl os)))
    rw [xm_g_set ok hk (fun p hp => x_up_ne hp) (fun _ _ => rfl)] at hz
    show mm_or (match (xm_g K0 c0 s)[q]? with | some (.inl (2, n, .inl f)) => some (vp_in (Int32.ofInt i) n ∧ Z (pc + 1) (xm_L ls) (r.map xm_c) ((xm_g K0 c0 s).set q (.inl (2, n, .inl (upd f (Int32.ofInt i).toNatClampNeg (vp_nar .char (Int32.ofInt x)))))) _) | _ => some False) _
    rw [hg]
    refine And.intro (i32_in h32 hi) ?_
    have e := x_up_f (M := s.2.2.1) (q := q) (z := (x_nar .char x)) hi.1 h32
    rw [show Int32.ofInt (x_nar .char x) = vp_nar .char (Int32.ofInt x) from i32_back _] at e
    have hz2 : Z (pc + 1) (xm_L ls) (r.map xm_c) ((xm_g K0 c0 s).set q (.inl (2, n, .inl (fun j : Nat => Int32.ofInt (x_up s.2.2.1 q i (x_nar .char x) q (j : Int)))))) s.2.2.2.2 := hz
    rw [e] at hz2
    exact hz2
  | bastore =>
    rcases st with _ | ⟨x | x | x, _ | ⟨i | i | i, _ | ⟨v | v | (_ | _ | q), r⟩⟩⟩ <;> try exact False.elim h
    obtain ⟨n, hk, hi, h⟩ := xm_arr_ok h
    have hg := xm_g_at ok hk
    have h32 : i32 i := xo_hd (xo_tl os)
    have hz := hnx _ _ _ _ h (xm_ok_set ok hk (fun p hp => x_up_ne hp) (by
      have := ok.2.2 _ _ hk
      exact ⟨fun ht j => x_up_in (A := i32) (this.1 ht) (by first | exact (i32_x _ : i32 _) | (rcases ht with ht | ht | ht <;> cases ht)) j, fun ht j => x_up_in (A := i64) (this.2 ht) (by first | exact (i32_x _ : i64 _) | cases ht) j⟩) s.2.2.2.2) ol (xo_tl (xo_tl (xo_tl os)))
    rw [xm_g_set ok hk (fun p hp => x_up_ne hp) (fun _ _ => rfl)] at hz
    show mm_or (match (xm_g K0 c0 s)[q]? with | some (.inl (3, n, .inl f)) => some (vp_in (Int32.ofInt i) n ∧ Z (pc + 1) (xm_L ls) (r.map xm_c) ((xm_g K0 c0 s).set q (.inl (3, n, .inl (upd f (Int32.ofInt i).toNatClampNeg (vp_nar .boolean (Int32.ofInt x)))))) _) | _ => some False) _
    rw [hg]
    refine And.intro (i32_in h32 hi) ?_
    have e := x_up_f (M := s.2.2.1) (q := q) (z := (x_nar .boolean x)) hi.1 h32
    rw [show Int32.ofInt (x_nar .boolean x) = vp_nar .boolean (Int32.ofInt x) from i32_back _] at e
    have hz2 : Z (pc + 1) (xm_L ls) (r.map xm_c) ((xm_g K0 c0 s).set q (.inl (3, n, .inl (fun j : Nat => Int32.ofInt (x_up s.2.2.1 q i (x_nar .boolean x) q (j : Int)))))) s.2.2.2.2 := hz
    rw [e] at hz2
    exact hz2
  | putfield i =>
    rcases st with _ | ⟨v, _ | ⟨w | w | (_ | _ | q), r⟩⟩ <;> try exact False.elim h
    unfold xm_s at h
    dsimp only at h
    split at h
    · rename_i ci fs hk
      have hg := xm_g_at ok hk
      have hko := ok.2.2 _ _ hk
      have hn : ∀ (i : Nat) g, fs[i]? = some g → g.2.2 = (i : Int) := fun i g h => (hko i g h).1
      show mm_or (match (xm_g K0 c0 s)[q]? with | some (.inr (ci, fs)) => (match mm_fl P (mm_kc P k) i with | some (cj, j) => (match decide (ci = cj ∧ j < fs.length ∧ ((mm_ft P ci j).2 = false ∨ (mm_ki P k = true ∧ ci = mm_kc P k))) with | true => (match mm_fit (mm_ft P ci j).1 (xm_c v) with | 1 => some (Z (pc + 3) (xm_L ls) (r.map xm_c) ((xm_g K0 c0 s).set q (.inr (ci, fs.set j (xm_c v)))) _) | 2 => some ((narrow (mm_ft P ci j).1 (xm_c v) = xm_c v ∧ fits (mm_ft P ci j).1 (xm_c v) = true) ∧ Z (pc + 3) (xm_L ls) (r.map xm_c) ((xm_g K0 c0 s).set q (.inr (ci, fs.set j (xm_c v)))) _) | _ => some False) | false => some False) | none => some False) | _ => some False) _
      rw [hg]
      show mm_or (match mm_fl P (mm_kc P k) i with | some (cj, j) => (match decide (ci = cj ∧ j < (fs.map (xm_f (s.2.2.1 q) (s.2.2.2.1 q))).length ∧ ((mm_ft P ci j).2 = false ∨ (mm_ki P k = true ∧ ci = mm_kc P k))) with | true => (match mm_fit (mm_ft P ci j).1 (xm_c v) with | 1 => some (Z (pc + 3) (xm_L ls) (r.map xm_c) ((xm_g K0 c0 s).set q (.inr (ci, (fs.map (xm_f (s.2.2.1 q) (s.2.2.2.1 q))).set j (xm_c v)))) _) | 2 => some ((narrow (mm_ft P ci j).1 (xm_c v) = xm_c v ∧ fits (mm_ft P ci j).1 (xm_c v) = true) ∧ Z (pc + 3) (xm_L ls) (r.map xm_c) ((xm_g K0 c0 s).set q (.inr (ci, (fs.map (xm_f (s.2.2.1 q) (s.2.2.2.1 q))).set j (xm_c v)))) _) | _ => some False) | false => some False) | none => some False) _
      split at h
      · rename_i cj j hfl
        split at h
        · rename_i hd
          have hd := of_decide_eq_true hd
          have fin : ∀ (f : Nat × Nat × Int) (M' : Nat → Int → Int) (R' : Nat → Int → Option Nat), fs[j]? = some f → (∀ p, p ≠ q → M' p = s.2.2.1 p) → (∀ p, p ≠ q → R' p = s.2.2.2.1 p) → (∀ i : Int, i ≠ j → M' q i = s.2.2.1 q i) → (∀ i : Int, i ≠ j → R' q i = s.2.2.2.1 q i) → xm_f (M' q) (R' q) f = xm_c v → (f.1 = 0 → i32 (M' q f.2.2)) → (f.1 = 1 → i64 (M' q f.2.2)) → nx (pc + 3) ls r (s.1, s.2.1, M', R', s.2.2.2.2) → Z (pc + 3) (xm_L ls) (r.map xm_c) ((xm_g K0 c0 s).set q (.inr (ci, (fs.map (xm_f (s.2.2.1 q) (s.2.2.2.1 q))).set j (xm_c v)))) s.2.2.2.2 := by
            intro f M' R' hf m1 r1 m2 r2 hv z1 z2 hh
            have hz := hnx _ _ _ _ hh (xm_ok_set ok hk m1 (by
              intro i' g hgi
              have h3 := hko i' g hgi
              by_cases he : i' = j
              · subst he
                rw [hf] at hgi
                cases hgi
                exact ⟨h3.1, z1, z2⟩
              · rw [h3.1, m2 _ (by omega)]
                rw [h3.1] at h3
                exact ⟨rfl, h3.2.1, h3.2.2⟩) s.2.2.2.2) ol (xo_tl (xo_tl os))
            rw [xm_g_set ok hk m1 r1] at hz
            rw [← xm_put_f hf hn m2 r2 hv]
            exact hz
          have hdec : ∀ f, fs[j]? = some f → decide (ci = cj ∧ j < (fs.map (xm_f (s.2.2.1 q) (s.2.2.2.1 q))).length ∧ ((mm_ft P ci j).2 = false ∨ (mm_ki P k = true ∧ ci = mm_kc P k))) = true := fun f hf => decide_eq_true ⟨hd.1, by rw [List.length_map]; exact (List.getElem?_eq_some_iff.mp hf).1, hd.2⟩
          have pick : ∀ (b : Bool) (X Y A : Prop) (n : Nat), b = true → (n = 1 → X) → (n = 2 → Y ∧ X) → (n = 1 ∨ n = 2) → mm_or (match b with | true => (match n with | 1 => some X | 2 => some (Y ∧ X) | _ => some False) | false => some False) A := by
            intro b X Y A n hb h1 h2 h12
            subst hb
            rcases h12 with rfl | rfl
            · exact h1 rfl
            · exact h2 rfl
          try rw [hfl]
          try dsimp only
          have upM : ∀ (z : Int), (j : Int) = z → ∀ x i : Int, i ≠ j → x_up s.2.2.1 q z x q i = s.2.2.1 q i := fun z hz x i hi => by
            unfold x_up
            rw [if_neg (fun h' => hi (by rw [h'.2, hz]))]
          have upR : ∀ (z : Int), (j : Int) = z → ∀ x (i : Int), i ≠ j → x_upR s.2.2.2.1 q z x q i = s.2.2.2.1 q i := fun z hz x i hi => by
            unfold x_upR
            rw [if_neg (fun h' => hi (by rw [h'.2, hz]))]
          have upS : ∀ z x : Int, x_up s.2.2.1 q z x q z = x := fun z x => by
            unfold x_up
            rw [if_pos ⟨rfl, rfl⟩]
          have upT : ∀ (z : Int) x, x_upR s.2.2.2.1 q z x q z = x := fun z x => by
            unfold x_upR
            rw [if_pos ⟨rfl, rfl⟩]
          split at h
          · rename_i u z hf
            have hjz : (j : Int) = z := (hn _ _ hf).symm
            split at h
            · rename_i x
              have hx : i32 x := xo_hd os
              split at h
              · rename_i hty
                try rw [hty]
                exact pick _ _ True _ 1 (hdec _ hf) (fun _ => fin _ _ _ hf (fun p hp => x_up_ne hp) (fun _ _ => rfl) (upM z hjz x) (fun _ _ => rfl) (by show Value.int (Int32.ofInt (x_up s.2.2.1 q z x q z)) = _; rw [upS]; rfl) (fun _ => by show i32 (x_up s.2.2.1 q z x q z); rw [upS]; exact hx) (fun h0 => by cases h0) h) (fun h0 => by cases h0) (.inl rfl)
              · rename_i hty
                try rw [hty]
                have hb : x = 0 ∨ x = 1 := by have := h.1; omega
                exact pick _ _ _ _ 2 (hdec _ hf) (fun h0 => by cases h0) (fun _ => ⟨by rcases hb with rfl | rfl <;> exact ⟨rfl, rfl⟩, fin _ _ _ hf (fun p hp => x_up_ne hp) (fun _ _ => rfl) (upM z hjz x) (fun _ _ => rfl) (by show Value.int (Int32.ofInt (x_up s.2.2.1 q z x q z)) = _; rw [upS]; rfl) (fun _ => by show i32 (x_up s.2.2.1 q z x q z); rw [upS]; exact hx) (fun h0 => by cases h0) h.2⟩) (.inr rfl)
              · exact h.elim
            · exact h.elim
          · rename_i u z hf
            have hjz : (j : Int) = z := (hn _ _ hf).symm
            split at h
            · rename_i x
              have hx : i64 x := xo_hd os
              split at h
              · rename_i hty
                try rw [hty]
                exact pick _ _ True _ 1 (hdec _ hf) (fun _ => fin _ _ _ hf (fun p hp => x_up_ne hp) (fun _ _ => rfl) (upM z hjz x) (fun _ _ => rfl) (by show Value.long (Int64.ofInt (x_up s.2.2.1 q z x q z)) = _; rw [upS]; rfl) (fun h0 => by cases h0) (fun _ => by show i64 (x_up s.2.2.1 q z x q z); rw [upS]; exact hx) h) (fun h0 => by cases h0) (.inl rfl)
              · exact h.elim
            · exact h.elim
          · rename_i u z hf
            have hjz : (j : Int) = z := (hn _ _ hf).symm
            split at h
            · rename_i x
              split at h
              · rename_i nm hty
                try rw [hty]
                rcases x with _ | x
                · exact pick _ _ True _ 1 (hdec _ hf) (fun _ => fin _ _ _ hf (fun _ _ => rfl) (fun p hp => x_upR_ne hp) (fun _ _ => rfl) (upR z hjz none) (by show va_rf (x_upR s.2.2.2.1 q z none q z) = _; rw [upT]; rfl) (fun h0 => by cases h0) (fun h0 => by cases h0) h) (fun h0 => by cases h0) (.inl rfl)
                · exact pick _ _ True _ 1 (hdec _ hf) (fun _ => fin _ _ _ hf (fun _ _ => rfl) (fun p hp => x_upR_ne hp) (fun _ _ => rfl) (upR z hjz (some x)) (by show va_rf (x_upR s.2.2.2.1 q z (some x) q z) = _; rw [upT]; rfl) (fun h0 => by cases h0) (fun h0 => by cases h0) h) (fun h0 => by cases h0) (.inl rfl)
              · rename_i nm hty
                try rw [hty]
                rcases x with _ | x
                · exact pick _ _ True _ 1 (hdec _ hf) (fun _ => fin _ _ _ hf (fun _ _ => rfl) (fun p hp => x_upR_ne hp) (fun _ _ => rfl) (upR z hjz none) (by show va_rf (x_upR s.2.2.2.1 q z none q z) = _; rw [upT]; rfl) (fun h0 => by cases h0) (fun h0 => by cases h0) h) (fun h0 => by cases h0) (.inl rfl)
                · exact pick _ _ True _ 1 (hdec _ hf) (fun _ => fin _ _ _ hf (fun _ _ => rfl) (fun p hp => x_upR_ne hp) (fun _ _ => rfl) (upR z hjz (some x)) (by show va_rf (x_upR s.2.2.2.1 q z (some x) q z) = _; rw [upT]; rfl) (fun h0 => by cases h0) (fun h0 => by cases h0) h) (fun h0 => by cases h0) (.inl rfl)
              · exact h.elim
            · exact h.elim
          · exact h.elim
        · exact h.elim
      · exact h.elim
    · exact h.elim
  | aastore =>
    rcases st with _ | ⟨x | x | (_ | _ | q2), _ | ⟨i | i | i, _ | ⟨v | v | (_ | _ | q), r⟩⟩⟩ <;> try exact False.elim h
    unfold xm_s at h
    dsimp only at h
    split at h
    · rename_i t n hk
      split at h
      · rename_i hd
        have ht := of_decide_eq_true hd
        obtain ⟨t', rfl⟩ : ∃ t', t = t' + 4 := ⟨t - 4, by omega⟩
        have hg := xm_g_at ok hk
        have h32 : i32 i := xo_hd (xo_tl os)
        have fin : (0 ≤ i ∧ i < (n : Int)) ∧ nx (pc + 1) ls r (s.1, s.2.1, s.2.2.1, x_upR s.2.2.2.1 q i (some (q2 + 1)), s.2.2.2.2) → vp_in (Int32.ofInt i) n ∧ Z (pc + 1) (xm_L ls) (r.map xm_c) ((xm_g K0 c0 s).set q (.inl (t' + 4, n, .inr (.inr (.inr (.inr (va_up (fun j : Nat => s.2.2.2.1 q (j : Int)) (Int32.ofInt i).toNatClampNeg (some (q2 + 1))))))))) s.2.2.2.2 := by
          rintro ⟨hi, hh⟩
          refine ⟨i32_in h32 hi, ?_⟩
          have hz := hnx _ _ _ _ hh (xm_ok_set ok hk (fun _ _ => rfl) (ok.2.2 _ _ hk) s.2.2.2.2) ol (xo_tl (xo_tl (xo_tl os)))
          rw [xm_g_set ok hk (fun _ _ => rfl) (fun p hp => x_upR_ne hp)] at hz
          rw [← x_upR_f hi.1 h32]
          exact hz
        show mm_or (match (xm_g K0 c0 s)[q]? with | some (.inl (t, n, .inr (.inr (.inr (.inr f))))) => (match (xm_g K0 c0 s)[q2]? with | some (.inr (ci, _)) => (match mm_ec P t with | some cj => (match decide (ci = cj) with | true => some (vp_in (Int32.ofInt i) n ∧ Z (pc + 1) (xm_L ls) (r.map xm_c) ((xm_g K0 c0 s).set q (.inl (t, n, .inr (.inr (.inr (.inr (va_up f (Int32.ofInt i).toNatClampNeg (some (q2 + 1))))))))) _) | false => some False) | none => some False) | some (.inl (0, _, .inl _)) => (match mm_ec P t with | some cj => (match decide (cj = 1000000) with | true => some (vp_in (Int32.ofInt i) n ∧ Z (pc + 1) (xm_L ls) (r.map xm_c) ((xm_g K0 c0 s).set q (.inl (t, n, .inr (.inr (.inr (.inr (va_up f (Int32.ofInt i).toNatClampNeg (some (q2 + 1))))))))) _) | false => some False) | none => some False) | _ => some False) | _ => some False) _
        rw [hg]
        split at h
        · rename_i ci fs hk2
          split at h
          · rename_i cj hec
            split at h
            · rename_i hd2
              show mm_or (match (xm_g K0 c0 s)[q2]? with | some (.inr (ci, _)) => (match mm_ec P (t' + 4) with | some cj => (match decide (ci = cj) with | true => some (vp_in (Int32.ofInt i) n ∧ Z (pc + 1) (xm_L ls) (r.map xm_c) ((xm_g K0 c0 s).set q (.inl (t' + 4, n, .inr (.inr (.inr (.inr (va_up (fun j : Nat => s.2.2.2.1 q (j : Int)) (Int32.ofInt i).toNatClampNeg (some (q2 + 1))))))))) _) | false => some False) | none => some False) | some (.inl (0, _, .inl _)) => _ | _ => some False) _
              rw [xm_g_at ok hk2, hec]
              show mm_or (match decide (ci = cj) with | true => some (vp_in (Int32.ofInt i) n ∧ Z (pc + 1) (xm_L ls) (r.map xm_c) ((xm_g K0 c0 s).set q (.inl (t' + 4, n, .inr (.inr (.inr (.inr (va_up (fun j : Nat => s.2.2.2.1 q (j : Int)) (Int32.ofInt i).toNatClampNeg (some (q2 + 1))))))))) _) | false => some False) _
              try rw [hd2]
              exact fin h
            · exact h.elim
          · exact h.elim
        · rename_i n2 hk2
          split at h
          · rename_i cj hec
            split at h
            · rename_i hd2
              show mm_or (match (xm_g K0 c0 s)[q2]? with | some (.inr (ci, _)) => _ | some (.inl (0, _, .inl _)) => (match mm_ec P (t' + 4) with | some cj => (match decide (cj = 1000000) with | true => some (vp_in (Int32.ofInt i) n ∧ Z (pc + 1) (xm_L ls) (r.map xm_c) ((xm_g K0 c0 s).set q (.inl (t' + 4, n, .inr (.inr (.inr (.inr (va_up (fun j : Nat => s.2.2.2.1 q (j : Int)) (Int32.ofInt i).toNatClampNeg (some (q2 + 1))))))))) _) | false => some False) | none => some False) | _ => some False) _
              rw [xm_g_at ok hk2, hec]
              show mm_or (match decide (cj = 1000000) with | true => some (vp_in (Int32.ofInt i) n ∧ Z (pc + 1) (xm_L ls) (r.map xm_c) ((xm_g K0 c0 s).set q (.inl (t' + 4, n, .inr (.inr (.inr (.inr (va_up (fun j : Nat => s.2.2.2.1 q (j : Int)) (Int32.ofInt i).toNatClampNeg (some (q2 + 1))))))))) _) | false => some False) _
              try rw [hd2]
              exact fin h
            · exact h.elim
          · exact h.elim
        · exact h.elim
      · exact h.elim
    · exact h.elim
  | arraylength =>
    rcases st with _ | ⟨v | v | (_ | _ | q), r⟩ <;> try exact False.elim h
    · have := hE 0
      exact hnx _ _ _ _ h ok ol (xo_cons (show i32 _ from ⟨by omega, by omega⟩) (xo_tl os))
    unfold xm_s at h
    dsimp only at h
    split at h
    · rename_i t n hk
      split at h
      · rename_i hd
        have hd := of_decide_eq_true hd
        show mm_or (match (xm_g K0 c0 s)[q]? with | some (.inl (t, a)) => (match decide (t < mm_nT P) with | true => some (Z (pc + 1) (xm_L ls) (.int (Int32.ofNat a.1) :: r.map xm_c) _ _) | false => some False) | _ => some False) _
        rw [xm_g_at ok hk]
        show mm_or (match decide (t < mm_nT P) with | true => some (Z (pc + 1) (xm_L ls) (.int (Int32.ofNat n) :: r.map xm_c) _ _) | false => some False) _
        rw [decide_eq_true hd.1]
        exact hnx _ _ _ _ h ok ol (xo_cons (show i32 _ from ⟨by omega, by omega⟩) (xo_tl os))
      · exact h.elim
    · exact h.elim
  | newarray y =>
    rcases st with _ | ⟨x | x | x, r⟩ <;> try exact False.elim h
    unfold xm_s at h
    dsimp only at h
    split at h
    · rename_i t a0 hnt
      rw [mm_fn_eq] at h
      obtain ⟨⟨h1, h2, h3, h4⟩, h⟩ := h
      have hx : i32 x := xo_hd os
      have hz := hnx _ _ _ _ h (xm_ok_new ok (kd := .inl (t, x.toNat)) ⟨fun _ _ => i32_00, fun _ _ => i64_00⟩ _) ol (xo_cons trivial (xo_tl os))
      rw [xm_g_new ok] at hz
      have ha : xm_e (fun _ => 0) (fun _ => none) (.inl (t, x.toNat)) = .inl (t, a0 x.toNat) := by
        cases y <;> first | (cases hnt; rfl) | (cases hnt; done)
      rw [ha] at hz
      show mm_or (match mm_nt y with | some (t, a0) => some ((¬ Int32.ofInt x < 0 ∧ (Int32.ofInt x).toNatClampNeg ≤ 1000000 ∧ (xm_g K0 c0 s).length + 1 ≤ mm_CM P ∧ s.2.2.2.2 + (Int32.ofInt x).toNatClampNeg ≤ mm_SM P) ∧ Z (pc + 2) (xm_L ls) (.ref ((xm_g K0 c0 s).length + 1) :: r.map xm_c) (xm_g K0 c0 s ++ [.inl (t, a0 (Int32.ofInt x).toNatClampNeg)]) (s.2.2.2.2 + (Int32.ofInt x).toNatClampNeg)) | none => some False) _
      try rw [hnt]
      refine And.intro ?_ ?_
      · refine ⟨fun q => ?_, ?_, ?_, ?_⟩
        · rw [i32_0, i32_lt hx i32_00] at q
          omega
        · rw [i32_clamp hx]
          omega
        · rw [xm_g_len]
          exact h3
        · rw [i32_clamp hx]
          exact h4
      rw [i32_clamp hx, xm_g_len]
      exact hz
    · exact h.elim
  | anewarray i =>
    rcases st with _ | ⟨x | x | x, r⟩ <;> try exact False.elim h
    unfold xm_s at h
    dsimp only at h
    split at h
    · rename_i t hal
      split at h
      rotate_left
      · exact h.elim
      rename_i hd4
      rw [mm_fn_eq] at h
      obtain ⟨⟨h1, h2, h3, h4⟩, h⟩ := h
      have hx : i32 x := xo_hd os
      have hz := hnx _ _ _ _ h (xm_ok_new ok (kd := .inl (t, x.toNat)) ⟨fun _ _ => i32_00, fun _ _ => i64_00⟩ _) ol (xo_cons trivial (xo_tl os))
      rw [xm_g_new ok] at hz
      have ht := of_decide_eq_true hd4
      obtain ⟨t', rfl⟩ : ∃ t', t = t' + 4 := ⟨t - 4, by omega⟩
      show mm_or (match mm_al P (mm_kc P k) i with | some t => some ((¬ Int32.ofInt x < 0 ∧ (Int32.ofInt x).toNatClampNeg ≤ 1000000 ∧ (xm_g K0 c0 s).length + 1 ≤ mm_CM P ∧ s.2.2.2.2 + (Int32.ofInt x).toNatClampNeg ≤ mm_SM P) ∧ Z (pc + 3) (xm_L ls) (.ref ((xm_g K0 c0 s).length + 1) :: r.map xm_c) (xm_g K0 c0 s ++ [.inl (t, (Int32.ofInt x).toNatClampNeg, .inr (.inr (.inr (.inr (fun _ => none)))))]) (s.2.2.2.2 + (Int32.ofInt x).toNatClampNeg)) | none => some False) _
      try rw [hal]
      refine And.intro ?_ ?_
      · refine ⟨fun q => ?_, ?_, ?_, ?_⟩
        · rw [i32_0, i32_lt hx i32_00] at q
          omega
        · rw [i32_clamp hx]
          omega
        · rw [xm_g_len]
          exact h3
        · rw [i32_clamp hx]
          exact h4
      rw [i32_clamp hx, xm_g_len]
      exact hz
    · exact h.elim
  | new i =>
    unfold xm_s at h
    dsimp only at h
    split at h
    · rename_i ci dv hnl
      split at h
      · rename_i hdv
        obtain ⟨⟨h1, h2⟩, h⟩ := h
        have hz := hnx _ _ _ _ h (xm_ok_new ok (kd := .inr (ci, xm_lay dv 0)) (fun i f hf => ⟨by have := xm_lay_ok dv 0 i f hf; simpa using this, fun _ => i32_00, fun _ => i64_00⟩) _) ol (xo_cons trivial os)
        rw [xm_g_new ok] at hz
        have e : xm_e (fun _ => 0) (fun _ => none) (.inr (ci, xm_lay dv 0)) = .inr (ci, dv) := by
          show (Sum.inr (ci, (xm_lay dv 0).map (xm_f (fun _ => 0) (fun _ => none))) : va_E) = _
          rw [xm_lay_dv _ _ (fun _ => rfl) (fun _ => rfl) dv 0 hdv]
        rw [e] at hz
        rw [show mm_s1 (mm_kl P k) (fun pc ls st => Z pc ls st (xm_g K0 c0 s) s.2.2.2.2) (.new i) pc (xm_L ls) (st.map xm_c) = none from by cases st <;> rfl]
        show mm_or (match mm_nl P (mm_kc P k) i with | some (ci, dv) => some (((xm_g K0 c0 s).length + 1 ≤ mm_CM P ∧ s.2.2.2.2 + dv.length ≤ mm_SM P) ∧ Z (pc + 3) (xm_L ls) (.ref ((xm_g K0 c0 s).length + 1) :: st.map xm_c) (xm_g K0 c0 s ++ [.inr (ci, dv)]) (s.2.2.2.2 + dv.length)) | none => some False) _
        rw [hnl, xm_g_len]
        exact And.intro ⟨h1, h2⟩ hz
      · exact h.elim
    · exact h.elim
  | ldc i =>
    unfold xm_s at h
    dsimp only at h
    split at h
    · rename_i v hv
      rw [xm_ci_eq] at h
      have hz := hnx _ _ _ _ h ok ol (xo_cons (i32_x v) os)
      rw [show mm_s1 (mm_kl P k) (fun pc ls st => Z pc ls st (xm_g K0 c0 s) s.2.2.2.2) (.ldc i) pc (xm_L ls) (st.map xm_c) = none from by cases st <;> rfl]
      show mm_or (match mm_cI P (mm_kc P k) i with | some v => some (Z (pc + 2) (xm_L ls) (.int v :: st.map xm_c) _ _) | none => some False) _
      try rw [hv]
      show Z (pc + 2) (xm_L ls) (.int v :: st.map xm_c) _ _
      rw [← i32_back v]
      exact hz
    · exact h.elim
  | ldc_w i =>
    unfold xm_s at h
    dsimp only at h
    split at h
    · rename_i v hv
      rw [xm_ci_eq] at h
      have hz := hnx _ _ _ _ h ok ol (xo_cons (i32_x v) os)
      rw [show mm_s1 (mm_kl P k) (fun pc ls st => Z pc ls st (xm_g K0 c0 s) s.2.2.2.2) (.ldc_w i) pc (xm_L ls) (st.map xm_c) = none from by cases st <;> rfl]
      show mm_or (match mm_cI P (mm_kc P k) i with | some v => some (Z (pc + 3) (xm_L ls) (.int v :: st.map xm_c) _ _) | none => some False) _
      try rw [hv]
      show Z (pc + 3) (xm_L ls) (.int v :: st.map xm_c) _ _
      rw [← i32_back v]
      exact hz
    · exact h.elim
  | ldc2_w i =>
    unfold xm_s at h
    dsimp only at h
    split at h
    · rename_i v hv
      rw [xm_ci_eq] at h
      have hz := hnx _ _ _ _ h ok ol (xo_cons (i64_x v) os)
      rw [show mm_s1 (mm_kl P k) (fun pc ls st => Z pc ls st (xm_g K0 c0 s) s.2.2.2.2) (.ldc2_w i) pc (xm_L ls) (st.map xm_c) = none from by cases st <;> rfl]
      show mm_or (match mm_cL P (mm_kc P k) i with | some v => some (Z (pc + 3) (xm_L ls) (.long v :: st.map xm_c) _ _) | none => some False) _
      try rw [hv]
      show Z (pc + 3) (xm_L ls) (.long v :: st.map xm_c) _ _
      rw [← i64_back v]
      exact hz
    · exact h.elim
  | ireturn =>
    rcases st with _ | ⟨x | x | x, _ | ⟨y, r⟩⟩ <;> try exact False.elim h
    have hx : i32 x := xo_hd os
    unfold xm_s at h
    dsimp only at h
    show (match mm_kr P k with | some .int => xm_Q K0 c0 Q (.inl (some (.int (Int32.ofInt x)))) _ _ | some ty => narrow ty (.int (Int32.ofInt x)) = .int (Int32.ofInt x) ∧ xm_Q K0 c0 Q (.inl (some (.int (Int32.ofInt x)))) _ _ | none => False)
    have fin : Q (.inl (some (.inl x))) s → xm_Q K0 c0 Q (.inl (some (.int (Int32.ofInt x)))) (xm_g K0 c0 s) s.2.2.2.2 := fun q => ⟨.inl (some (.inl x)), s, rfl, rfl, rfl, ok, hx, q⟩
    split at h
    · rename_i hr
      try rw [hr]
      exact fin h
    · rename_i hr
      try rw [hr]
      refine ⟨?_, fin h.2⟩
      have hb : x = 0 ∨ x = 1 := by have := h.1; omega
      rcases hb with rfl | rfl <;> rfl
    · rename_i hr
      try rw [hr]
      refine ⟨?_, fin h.2⟩
      show Value.int (Int32.ofInt x).toUInt32.toUInt16.toUInt32.toInt32 = _
      congr 1
      have h0 := h.1.1
      have h1 := h.1.2
      obtain ⟨n, rfl⟩ : ∃ n : Nat, x = (n : Int) := ⟨x.toNat, by omega⟩
      exact x_char (by omega)
    · exact h.elim
  | lreturn =>
    rcases st with _ | ⟨x | x | x, _ | ⟨y, r⟩⟩ <;> try exact False.elim h
    have hx : i64 x := xo_hd os
    unfold xm_s at h
    dsimp only at h
    show (match mm_kr P k with | some .long => xm_Q K0 c0 Q (.inl (some (.long (Int64.ofInt x)))) _ _ | _ => False)
    split at h
    · rename_i hr
      try rw [hr]
      exact ⟨.inl (some (.inr (.inl x))), s, rfl, rfl, rfl, ok, hx, h⟩
    · exact h.elim
  | areturn =>
    rcases st with _ | ⟨x | x | x, _ | ⟨y, r⟩⟩ <;> try exact False.elim h
    unfold xm_s at h
    dsimp only at h
    have fin : Q (.inl (some (.inr (.inr x)))) s → xm_Q K0 c0 Q (.inl (some (va_rf x))) (xm_g K0 c0 s) s.2.2.2.2 := fun q => ⟨.inl (some (.inr (.inr x))), s, rfl, rfl, rfl, ok, trivial, q⟩
    have hk2 : mm_kind 2 (va_rf x) = true := by cases x <;> rfl
    show (match mm_kind 2 (va_rf x) with | true => (match mm_kr P k with | some (.object _) => xm_Q K0 c0 Q (.inl (some (va_rf x))) _ _ | some (.array _) => xm_Q K0 c0 Q (.inl (some (va_rf x))) _ _ | _ => False) | false => False)
    rw [hk2]
    dsimp only
    split at h
    · rename_i hr
      try rw [hr]
      exact fin h
    · rename_i hr
      try rw [hr]
      exact fin h
    · exact h.elim
  | return_ =>
    rcases st with _ | ⟨x, r⟩ <;> try exact False.elim h
    unfold xm_s at h
    dsimp only at h
    show (match mm_kr P k with | none => xm_Q K0 c0 Q (.inl none) _ _ | some _ => False)
    split at h
    · rename_i hr
      try rw [hr]
      exact ⟨.inl none, s, rfl, rfl, rfl, ok, trivial, h⟩
    · exact h.elim
  | invokestatic i =>
    rw [show mm_s1 (mm_kl P k) (fun pc ls st => Z pc ls st (xm_g K0 c0 s) s.2.2.2.2) (.invokestatic i) pc (xm_L ls) (st.map xm_c) = none from by cases st <;> rfl]
    unfold xm_s at h
    dsimp only at h
    show mm_s3 P call' k (fun pc st g sl => Z pc (xm_L ls) st g sl) (xm_Q K0 c0 Q) (.invokestatic i) pc (st.map xm_c) (xm_g K0 c0 s) s.2.2.2.2
    unfold mm_s3
    dsimp only
    split at h
    · rename_i k' na hml
      try rw [hml]
      have := xm_inv_ok (chk' := fun _ => true) hc hcall hnx ok ol os (fun _ _ => rfl) h
      simp only [Bool.and_true] at this
      exact this
    · rename_i k' na hml
      try rw [hml]
      have := xm_inv_ok (chk' := fun _ => true) hc hcall hnx ok ol os (fun _ _ => rfl) h
      simp only [Bool.and_true] at this
      exact this
    · rename_i k' na hml
      try rw [hml]
      split at h
      · rename_i n dp q2 sp q1 r
        split at h
        · rename_i n1 hk1
          split at h
          · rename_i n2 hk2
            split at h
            · rename_i hd
              obtain ⟨⟨b1, b2, b3, b4, b5⟩, h⟩ := h
              have in_n : i32 n := xo_hd os
              have in_dp : i32 dp := xo_hd (xo_tl os)
              have in_sp : i32 sp := xo_hd (xo_tl (xo_tl (xo_tl os)))
              have m1 : ∀ p, p ≠ q2 → x_cpy s.2.2.1 q1 q2 sp dp n p = s.2.2.1 p := fun p hp => by
                funext j
                unfold x_cpy
                rw [if_neg (fun h' => hp h'.1)]
              have m2 : xm_kok (x_cpy s.2.2.1 q1 q2 sp dp n q2) (.inl (1, n2)) := by
                refine ⟨fun ht => ?_, fun _ j => ?_⟩
                · rcases ht with ht | ht | ht <;> cases ht
                · unfold x_cpy
                  split
                  · exact xm_ok_il ok hk1 _
                  · exact xm_ok_il ok hk2 _
              have hz := hnx _ _ _ _ h (xm_ok_set ok hk2 m1 m2 s.2.2.2.2) ol (xo_tl (xo_tl (xo_tl (xo_tl (xo_tl os)))))
              rw [xm_g_set ok hk2 m1 (fun _ _ => rfl)] at hz
              show (match (xm_g K0 c0 s)[q1]? with | some (.inl (1, n1, .inr (.inl f1))) => (match (xm_g K0 c0 s)[q2]? with | some (.inl (1, n2, .inr (.inl f2))) => (match decide (mm_cats (r.map xm_c) ≤ 24) with | true => (¬ Int32.ofInt sp < 0 ∧ ¬ Int32.ofInt dp < 0 ∧ ¬ Int32.ofInt n < 0 ∧ (Int32.ofInt sp).toNatClampNeg + (Int32.ofInt n).toNatClampNeg ≤ n1 ∧ (Int32.ofInt dp).toNatClampNeg + (Int32.ofInt n).toNatClampNeg ≤ n2) ∧ Z (pc + 3) (xm_L ls) (r.map xm_c) ((xm_g K0 c0 s).set q2 (.inl (1, n2, .inr (.inl (va_cpy f1 f2 (Int32.ofInt sp).toNatClampNeg (Int32.ofInt dp).toNatClampNeg (Int32.ofInt n).toNatClampNeg))))) s.2.2.2.2 | false => False) | _ => False) | _ => False)
              rw [xm_g_at ok hk1, xm_g_at ok hk2, xm_cats_map, hd, i32_clamp in_n, i32_clamp in_sp, i32_clamp in_dp, i32_0]
              refine ⟨⟨fun q => ?_, fun q => ?_, fun q => ?_, ?_, ?_⟩, ?_⟩
              · rw [i32_lt in_sp i32_00] at q; omega
              · rw [i32_lt in_dp i32_00] at q; omega
              · rw [i32_lt in_n i32_00] at q; omega
              · omega
              · omega
              · have e : (fun j : Nat => Int64.ofInt (x_cpy s.2.2.1 q1 q2 sp dp n q2 (j : Int))) = va_cpy (fun j : Nat => Int64.ofInt (s.2.2.1 q1 (j : Int))) (fun j : Nat => Int64.ofInt (s.2.2.1 q2 (j : Int))) sp.toNat dp.toNat n.toNat := by
                  funext j
                  unfold x_cpy va_cpy
                  by_cases hj : dp.toNat ≤ j ∧ j < dp.toNat + n.toNat
                  · rw [if_pos ⟨rfl, by omega, by omega⟩, if_pos hj]
                    congr 1
                    have e5 : sp + ((j : Int) - dp) = ((sp.toNat + (j - dp.toNat) : Nat) : Int) := by omega
                    rw [e5]
                  · rw [if_neg (fun h' => hj (by omega)), if_neg hj]
                rw [← e]
                exact hz
            · exact h.elim
          · exact h.elim
        · exact h.elim
      · exact h.elim
    · exact h.elim
  | invokevirtual i =>
    rw [show mm_s1 (mm_kl P k) (fun pc ls st => Z pc ls st (xm_g K0 c0 s) s.2.2.2.2) (.invokevirtual i) pc (xm_L ls) (st.map xm_c) = none from by cases st <;> rfl]
    unfold xm_s at h
    dsimp only at h
    show mm_s3 P call' k (fun pc st g sl => Z pc (xm_L ls) st g sl) (xm_Q K0 c0 Q) (.invokevirtual i) pc (st.map xm_c) (xm_g K0 c0 s) s.2.2.2.2
    unfold mm_s3
    dsimp only
    split at h
    · rename_i k' na hml
      try rw [hml]
      refine xm_inv_ok (chk' := fun as => mm_recv P k' as (xm_g K0 c0 s)) hc hcall hnx ok ol os (fun as ha => ?_) h
      unfold xm_recv at ha
      split at ha
      · rename_i q r
        split at ha
        · rename_i ci fs hk
          show (match (xm_g K0 c0 s)[q]? with | some (.inr (ci, _)) => decide (ci = mm_kc P k') | _ => false) = true
          rw [xm_g_at ok hk]
          exact ha
        · cases ha
      · cases ha
    · rename_i k' na hml
      try rw [hml]
      refine xm_inv_ok (chk' := mm_isS) hc hcall hnx ok ol os (fun as ha => ?_) h
      unfold xm_isS at ha
      split at ha
      · exact ha
      · cases ha
    · exact h.elim
  | invokespecial i =>
    rw [show mm_s1 (mm_kl P k) (fun pc ls st => Z pc ls st (xm_g K0 c0 s) s.2.2.2.2) (.invokespecial i) pc (xm_L ls) (st.map xm_c) = none from by cases st <;> rfl]
    unfold xm_s at h
    dsimp only at h
    show mm_s3 P call' k (fun pc st g sl => Z pc (xm_L ls) st g sl) (xm_Q K0 c0 Q) (.invokespecial i) pc (st.map xm_c) (xm_g K0 c0 s) s.2.2.2.2
    unfold mm_s3
    dsimp only
    split at h
    · rename_i k' na hml
      try rw [hml]
      refine xm_inv_ok (chk' := mm_isref) hc hcall hnx ok ol os (fun as ha => ?_) h
      unfold xm_isref at ha
      split at ha
      · rfl
      · cases ha
    · rename_i k' na hml
      try rw [hml]
      split at h
      · rename_i x r
        split at h
        · rename_i hd
          show (match decide (mm_cats (r.map xm_c) + 12 ≤ 64) with | true => Z (pc + 3) (xm_L ls) (r.map xm_c) _ _ | false => False)
          rw [xm_cats_map, hd]
          exact hnx _ _ _ _ h ok ol (xo_tl os)
        · exact h.elim
      · exact h.elim
    · exact h.elim
  | _ => exact False.elim h
theorem xm_z_ok (hE : ∀ j, (eX j).1 ≤ 1000000) (hc : mm_cmo call') (hcall : ∀ k as s Q, call k as s Q → xm_ok K0 c0 s → xm_okS as → call' k (as.map xm_c) (xm_g K0 c0 s) s.2.2.2.2 (xm_Q K0 c0 Q)) (hnx : ∀ pc ls st s, nx pc ls st s → xm_ok K0 c0 s → xm_okL ls → xm_okS st → Z pc (xm_L ls) (st.map xm_c) (xm_g K0 c0 s) s.2.2.2.2)
    {pc : Nat} {ls : List (Nat × xv)} {st : List xv} {s : xs} (ok : xm_ok K0 c0 s) (ol : xm_okL ls) (os : xm_okS st) (h : xm_z P eX K0 c0 call k nx Q pc ls st s) : mm_z P eX call' k Z (xm_Q K0 c0 Q) pc (xm_L ls) (st.map xm_c) (xm_g K0 c0 s) s.2.2.2.2 := by
  unfold xm_z at h
  unfold mm_z
  split at h
  · rename_i ci hx
    try rw [hx]
    refine ⟨⟨by rw [xm_g_len]; exact h.1.1, h.1.2.1, by rw [xm_cats_map]; exact h.1.2.2⟩, .inr (ci, s.2.1 + c0 + 1), (x_new s.1 s.2.1 (.inr (ci, [])), s.2.1 + 1, x_zM s.2.2.1 (s.2.1 + c0), x_zR s.2.2.2.1 (s.2.1 + c0), s.2.2.2.2 + 6), by rw [xm_g_len]; rfl, ?_, rfl, xm_ok_new ok (kd := .inr (ci, [])) (fun i f hf => by simp at hf) _, trivial, h.2⟩
    rw [xm_g_new ok]
    rfl
  rename_i hx
  try rw [hx]
  try dsimp only
  split at h
  · rename_i lo dt ts hsw
    try rw [hsw]
    split at h
    · rename_i x r
      have hx : i32 x := xo_hd os
      show ((Int32.ofInt x).toInt < lo ∨ lo + (ts.length : Int) - 1 < (Int32.ofInt x).toInt → Z dt (xm_L ls) (r.map xm_c) _ _) ∧ ∀ (i t : Nat), ts[i]? = some t → (Int32.ofInt x).toInt = lo + (i : Int) → Z t (xm_L ls) (r.map xm_c) _ _
      rw [i32_to hx]
      have h2 := (mm_swl_iff ts lo).mp h.2
      exact ⟨fun q => hnx _ _ _ _ (h.1 q) ok ol (xo_tl os), fun i t q1 q2 => hnx _ _ _ _ (h2 i t q1 q2) ok ol (xo_tl os)⟩
    · exact h.elim
  rename_i hsw
  try rw [hsw]
  try dsimp only
  split at h
  · rename_i dt ps hlk
    try rw [hlk]
    split at h
    · rename_i x r
      have hx : i32 x := xo_hd os
      show mm_lks (Int32.ofInt x).toInt ps (fun t => Z t (xm_L ls) (r.map xm_c) _ _) (Z dt (xm_L ls) (r.map xm_c) _ _)
      rw [i32_to hx]
      exact mm_lks_mono (fun t q => hnx _ _ _ _ q ok ol (xo_tl os)) (fun q => hnx _ _ _ _ q ok ol (xo_tl os)) ps h
    · exact h.elim
  rename_i hlk
  try rw [hlk]
  try dsimp only
  split at h
  · rename_i j u w hgs
    try rw [hgs]
    have := hE (j + 1)
    exact hnx _ _ _ _ h ok ol (xo_cons (show i32 _ from ⟨by omega, by omega⟩) os)
  · rename_i j u i w hgs
    try rw [hgs]
    split at h
    · rename_i x hg
      have hx : i32 x := xm_get_ok ol hg
      have hg2 : mm_get (xm_L ls) i = some (.int (Int32.ofInt x)) := by rw [xm_get_L, hg]; rfl
      show (match mm_get (xm_L ls) i with | some (.int x) => vp_in x (eX (j + 1)).1 ∧ Z (pc + 3 + w + 1) (xm_L ls) (.int ((eX (j + 1)).2 x.toNatClampNeg) :: st.map xm_c) _ _ | _ => False)
      rw [hg2]
      refine ⟨i32_in hx h.1, ?_⟩
      rw [i32_clamp hx, ← i32_back ((eX (j + 1)).2 x.toNat)]
      exact hnx _ _ _ _ h.2 ok ol (xo_cons (i32_x _) os)
    · exact h.elim
  rename_i hgs
  try rw [hgs]
  try dsimp only
  split at h
  · rename_i c hxs
    try rw [hxs]
    exact hnx _ _ _ _ h ok ol (xo_cons trivial os)
  · rename_i c hxs
    try rw [hxs]
    split at h
    · rename_i q r
      split at h
      · rename_i hd
        show (match decide (q = 1000003) with | true => Z (pc + 3) (xm_L ls) (.ref 1000004 :: r.map xm_c) _ _ | false => False)
        try rw [hd]
        exact hnx _ _ _ _ h ok ol (xo_cons trivial (xo_tl os))
      · exact h.elim
    · exact h.elim
  · rename_i c hxs
    try rw [hxs]
    split at h
    · rename_i q r
      split at h
      · rename_i hd
        show (match decide (q = 1000003) with | true => Z (pc + 3) (xm_L ls) (.int 0 :: r.map xm_c) _ _ | false => False)
        try rw [hd]
        exact hnx _ _ _ _ h ok ol (xo_cons i32_00 (xo_tl os))
      · exact h.elim
    · exact h.elim
  · rename_i c hxs
    try rw [hxs]
    split at h
    · rename_i x q r
      have hx : i32 x := xo_hd os
      split at h
      · rename_i hd
        show (match decide (q = 1000004) with | true => vp_in (Int32.ofInt x) (eX 4).1 ∧ Z (pc + 1) (xm_L ls) (.int ((eX 4).2 (Int32.ofInt x).toNatClampNeg) :: r.map xm_c) _ _ | false => False)
        try rw [hd]
        refine ⟨i32_in hx h.1, ?_⟩
        rw [i32_clamp hx, ← i32_back ((eX 4).2 x.toNat)]
        exact hnx _ _ _ _ h.2 ok ol (xo_cons (i32_x _) (xo_tl (xo_tl os)))
      · exact h.elim
    · exact h.elim
  · rename_i c hxs
    try rw [hxs]
    have := hE 4
    split at h
    · rename_i q r
      split at h
      · rename_i hd
        show (match decide (q = 1000004) with | true => Z (pc + 1) (xm_L ls) (.int (Int32.ofNat (eX 4).1) :: r.map xm_c) _ _ | false => False)
        try rw [hd]
        exact hnx _ _ _ _ h ok ol (xo_cons (show i32 _ from ⟨by omega, by omega⟩) (xo_tl os))
      · exact h.elim
    · exact h.elim
  · rename_i a c n0 n1 n2 n3 n4 hxs
    try rw [hxs]
    split at h
    · rename_i hd
      have hd := of_decide_eq_true hd
      have hz := hnx _ _ _ _ h ok ol (xo_cons (show i32 (c : Int) from ⟨by omega, by omega⟩) os)
      split
      · rename_i hq; cases hq; exact (n0 rfl).elim
      · rename_i hq; cases hq; exact (n1 rfl).elim
      · rename_i hq; cases hq; exact (n2 rfl).elim
      · rename_i hq; cases hq; exact (n3 rfl).elim
      · rename_i hq; cases hq; exact (n4 rfl).elim
      · rename_i hq; cases hq; exact hz
      · rename_i hq; cases hq
    · exact h.elim
  rename_i hxs
  try rw [hxs]
  try dsimp only
  split at h
  · exact h.elim
  · rename_i ins hl
    try rw [hl]
    exact xm_s_ok hE hc hcall hnx ok ol os h
end XmStep
def xm_sF (P : mm_P) (eX : Nat → Nat × (Nat → Int32)) (K0 : List xk) (c0 : Nat) (call : xC) (k : Nat) (nx : xZ) (Q : xK) (ins : Instr) (pc : Nat) (ls : List (Nat × xv)) (st : List xv) (r0 : Nat → Option xk) (e0 : Nat) (M : Nat → Int → Int) (R : Nat → Int → Option Nat) (sl : Nat) : Prop :=
  match ins with
  | .iconst n => match decide (-1 ≤ n ∧ n ≤ 5) with
    | true => nx (pc + 1) ls (.inl n :: st) (r0, e0, M, R, sl)
    | false => False
  | .bipush n => match decide (-128 ≤ n ∧ n ≤ 127) with
    | true => nx (pc + 2) ls (.inl n :: st) (r0, e0, M, R, sl)
    | false => False
  | .sipush n => match decide (-32768 ≤ n ∧ n ≤ 32767) with
    | true => nx (pc + 3) ls (.inl n :: st) (r0, e0, M, R, sl)
    | false => False
  | .lconst n => match decide ((n : Nat) = 0) with
    | true => nx (pc + 1) ls (.inr (.inl 0) :: st) (r0, e0, M, R, sl)
    | false => nx (pc + 1) ls (.inr (.inl 1) :: st) (r0, e0, M, R, sl)
  | .aconst_null => nx (pc + 1) ls (.inr (.inr none) :: st) (r0, e0, M, R, sl)
  | .iload_n j => xm_ldg nx ls j 0 (pc + 1) st (r0, e0, M, R, sl)
  | .iload j => xm_ldg nx ls j 0 (pc + 2) st (r0, e0, M, R, sl)
  | .lload_n j => xm_ldg nx ls j 1 (pc + 1) st (r0, e0, M, R, sl)
  | .lload j => xm_ldg nx ls j 1 (pc + 2) st (r0, e0, M, R, sl)
  | .aload_n j => xm_ldg nx ls j 2 (pc + 1) st (r0, e0, M, R, sl)
  | .aload j => xm_ldg nx ls j 2 (pc + 2) st (r0, e0, M, R, sl)
  | .istore_n j => xm_stg (mm_kl P k) nx ls j 0 (pc + 1) st (r0, e0, M, R, sl)
  | .istore j => xm_stg (mm_kl P k) nx ls j 0 (pc + 2) st (r0, e0, M, R, sl)
  | .lstore_n j => xm_stg (mm_kl P k) nx ls j 1 (pc + 1) st (r0, e0, M, R, sl)
  | .lstore j => xm_stg (mm_kl P k) nx ls j 1 (pc + 2) st (r0, e0, M, R, sl)
  | .astore_n j => xm_stg (mm_kl P k) nx ls j 2 (pc + 1) st (r0, e0, M, R, sl)
  | .astore j => xm_stg (mm_kl P k) nx ls j 2 (pc + 2) st (r0, e0, M, R, sl)
  | .iadd => match st with
    | .inl y :: .inl x :: r => nx (pc + 1) ls (.inl (w32 (x + y)) :: r) (r0, e0, M, R, sl)
    | _ => False
  | .isub => match st with
    | .inl y :: .inl x :: r => nx (pc + 1) ls (.inl (w32 (x - y)) :: r) (r0, e0, M, R, sl)
    | _ => False
  | .imul => match st with
    | .inl y :: .inl x :: r => nx (pc + 1) ls (.inl (w32 (x * y)) :: r) (r0, e0, M, R, sl)
    | _ => False
  | .iand => match st with
    | .inl y :: .inl x :: r => nx (pc + 1) ls (.inl (x_and x y) :: r) (r0, e0, M, R, sl)
    | _ => False
  | .ior => match st with
    | .inl y :: .inl x :: r => nx (pc + 1) ls (.inl (x_or x y) :: r) (r0, e0, M, R, sl)
    | _ => False
  | .ixor => match st with
    | .inl y :: .inl x :: r => nx (pc + 1) ls (.inl (x_xor x y) :: r) (r0, e0, M, R, sl)
    | _ => False
  | .ishl => match st with
    | .inl y :: .inl x :: r => nx (pc + 1) ls (.inl (x_shl x y) :: r) (r0, e0, M, R, sl)
    | _ => False
  | .ishr => match st with
    | .inl y :: .inl x :: r => nx (pc + 1) ls (.inl (x_shr x y) :: r) (r0, e0, M, R, sl)
    | _ => False
  | .iushr => match st with
    | .inl y :: .inl x :: r => nx (pc + 1) ls (.inl (x_ushr x y) :: r) (r0, e0, M, R, sl)
    | _ => False
  | .ladd => match st with
    | .inr (.inl y) :: .inr (.inl x) :: r => nx (pc + 1) ls (.inr (.inl (w64 (x + y))) :: r) (r0, e0, M, R, sl)
    | _ => False
  | .lsub => match st with
    | .inr (.inl y) :: .inr (.inl x) :: r => nx (pc + 1) ls (.inr (.inl (w64 (x - y))) :: r) (r0, e0, M, R, sl)
    | _ => False
  | .lmul => match st with
    | .inr (.inl y) :: .inr (.inl x) :: r => nx (pc + 1) ls (.inr (.inl (w64 (x * y))) :: r) (r0, e0, M, R, sl)
    | _ => False
  | .land => match st with
    | .inr (.inl y) :: .inr (.inl x) :: r => nx (pc + 1) ls (.inr (.inl (x_land x y)) :: r) (r0, e0, M, R, sl)
    | _ => False
  | .lor => match st with
    | .inr (.inl y) :: .inr (.inl x) :: r => nx (pc + 1) ls (.inr (.inl (x_lor x y)) :: r) (r0, e0, M, R, sl)
    | _ => False
  | .lxor => match st with
    | .inr (.inl y) :: .inr (.inl x) :: r => nx (pc + 1) ls (.inr (.inl (x_lxor x y)) :: r) (r0, e0, M, R, sl)
    | _ => False
  | .idiv => match st with
    | .inl y :: .inl x :: r => ¬ y = 0 ∧ nx (pc + 1) ls (.inl (w32 (x.tdiv y)) :: r) (r0, e0, M, R, sl)
    | _ => False
  | .irem => match st with
    | .inl y :: .inl x :: r => ¬ y = 0 ∧ nx (pc + 1) ls (.inl (w32 (x.tmod y)) :: r) (r0, e0, M, R, sl)
    | _ => False
  | .ldiv => match st with
    | .inr (.inl y) :: .inr (.inl x) :: r => ¬ y = 0 ∧ nx (pc + 1) ls (.inr (.inl (w64 (x.tdiv y))) :: r) (r0, e0, M, R, sl)
    | _ => False
  | .lrem => match st with
    | .inr (.inl y) :: .inr (.inl x) :: r => ¬ y = 0 ∧ nx (pc + 1) ls (.inr (.inl (w64 (x.tmod y))) :: r) (r0, e0, M, R, sl)
    | _ => False
  | .ineg => match st with
    | .inl x :: r => nx (pc + 1) ls (.inl (w32 (-x)) :: r) (r0, e0, M, R, sl)
    | _ => False
  | .i2c => match st with
    | .inl x :: r => nx (pc + 1) ls (.inl (x_i2c x) :: r) (r0, e0, M, R, sl)
    | _ => False
  | .i2b => match st with
    | .inl x :: r => nx (pc + 1) ls (.inl (x_i2b x) :: r) (r0, e0, M, R, sl)
    | _ => False
  | .i2s => match st with
    | .inl x :: r => nx (pc + 1) ls (.inl (x_i2s x) :: r) (r0, e0, M, R, sl)
    | _ => False
  | .i2l => match st with
    | .inl x :: r => nx (pc + 1) ls (.inr (.inl x) :: r) (r0, e0, M, R, sl)
    | _ => False
  | .l2i => match st with
    | .inr (.inl x) :: r => nx (pc + 1) ls (.inl (w32 x) :: r) (r0, e0, M, R, sl)
    | _ => False
  | .lneg => match st with
    | .inr (.inl x) :: r => nx (pc + 1) ls (.inr (.inl (w64 (-x))) :: r) (r0, e0, M, R, sl)
    | _ => False
  | .lcmp => match st with
    | .inr (.inl y) :: .inr (.inl x) :: r => nx (pc + 1) ls (.inl (x_cmp x y) :: r) (r0, e0, M, R, sl)
    | _ => False
  | .ifCond .eq o => match st with
    | .inl x :: r => xm_brg nx (x = 0) o pc ls r (r0, e0, M, R, sl)
    | _ => False
  | .ifCond .ne o => match st with
    | .inl x :: r => xm_brg nx (¬ x = 0) o pc ls r (r0, e0, M, R, sl)
    | _ => False
  | .ifCond .lt o => match st with
    | .inl x :: r => xm_brg nx (x < 0) o pc ls r (r0, e0, M, R, sl)
    | _ => False
  | .ifCond .ge o => match st with
    | .inl x :: r => xm_brg nx (0 ≤ x) o pc ls r (r0, e0, M, R, sl)
    | _ => False
  | .ifCond .gt o => match st with
    | .inl x :: r => xm_brg nx (0 < x) o pc ls r (r0, e0, M, R, sl)
    | _ => False
  | .ifCond .le o => match st with
    | .inl x :: r => xm_brg nx (x ≤ 0) o pc ls r (r0, e0, M, R, sl)
    | _ => False
  | .if_icmp .eq o => match st with
    | .inl y :: .inl x :: r => xm_brg nx (x = y) o pc ls r (r0, e0, M, R, sl)
    | _ => False
  | .if_icmp .ne o => match st with
    | .inl y :: .inl x :: r => xm_brg nx (¬ x = y) o pc ls r (r0, e0, M, R, sl)
    | _ => False
  | .if_icmp .lt o => match st with
    | .inl y :: .inl x :: r => xm_brg nx (x < y) o pc ls r (r0, e0, M, R, sl)
    | _ => False
  | .if_icmp .ge o => match st with
    | .inl y :: .inl x :: r => xm_brg nx (y ≤ x) o pc ls r (r0, e0, M, R, sl)
    | _ => False
  | .if_icmp .gt o => match st with
    | .inl y :: .inl x :: r => xm_brg nx (y < x) o pc ls r (r0, e0, M, R, sl)
    | _ => False
  | .if_icmp .le o => match st with
    | .inl y :: .inl x :: r => xm_brg nx (x ≤ y) o pc ls r (r0, e0, M, R, sl)
    | _ => False
  | .dup => match xm_stk .dup st with
    | some r => nx (pc + 1) ls r (r0, e0, M, R, sl)
    | none => False
  | .pop => match xm_stk .pop st with
    | some r => nx (pc + 1) ls r (r0, e0, M, R, sl)
    | none => False
  | .dup_x1 => match xm_stk .dup_x1 st with
    | some r => nx (pc + 1) ls r (r0, e0, M, R, sl)
    | none => False
  | .dup_x2 => match xm_stk .dup_x2 st with
    | some r => nx (pc + 1) ls r (r0, e0, M, R, sl)
    | none => False
  | .dup2 => match xm_stk .dup2 st with
    | some r => nx (pc + 1) ls r (r0, e0, M, R, sl)
    | none => False
  | .pop2 => match xm_stk .pop2 st with
    | some r => nx (pc + 1) ls r (r0, e0, M, R, sl)
    | none => False
  | .dup2_x1 => match xm_stk .dup2_x1 st with
    | some r => nx (pc + 1) ls r (r0, e0, M, R, sl)
    | none => False
  | .dup2_x2 => match xm_stk .dup2_x2 st with
    | some r => nx (pc + 1) ls r (r0, e0, M, R, sl)
    | none => False
  | .goto o => match mm_tgt pc o with
    | some t => nx t ls st (r0, e0, M, R, sl)
    | none => False
  | .iinc i c => match xm_get ls i with
    | some (.inl x) => match decide (i < mm_kl P k ∧ -32768 ≤ c ∧ c ≤ 32767) with
      | true => nx (pc + 3) (xm_set1 ls i (.inl (w32 (x + c)))) st (r0, e0, M, R, sl)
      | false => False
    | _ => False
  | .ifnull o => match st with
    | .inr (.inr none) :: r => match mm_tgt pc o with
      | some t => nx t ls r (r0, e0, M, R, sl)
      | none => False
    | .inr (.inr (some _)) :: r => nx (pc + 3) ls r (r0, e0, M, R, sl)
    | _ => False
  | .ifnonnull o => match st with
    | .inr (.inr (some _)) :: r => match mm_tgt pc o with
      | some t => nx t ls r (r0, e0, M, R, sl)
      | none => False
    | .inr (.inr none) :: r => nx (pc + 3) ls r (r0, e0, M, R, sl)
    | _ => False
  | .getfield i => match st with
    | .inr (.inr (some (q + 1))) :: r => match xm_kd K0 q r0 with
      | some (.inr (ci, fs)) => match mm_fl P (mm_kc P k) i with
        | some (cj, j) => match decide (ci = cj) with
          | true => match fs[j]? with
            | some (0, _, z) => nx (pc + 3) ls (.inl (M q z) :: r) (r0, e0, M, R, sl)
            | some (1, _, z) => nx (pc + 3) ls (.inr (.inl (M q z)) :: r) (r0, e0, M, R, sl)
            | some (2, p, _) => nx (pc + 3) ls (.inr (.inr (some p)) :: r) (r0, e0, M, R, sl)
            | some (4, p, _) => match decide (p ≤ 1000000) with
              | true => nx (pc + 3) ls (.inl (p : Int) :: r) (r0, e0, M, R, sl)
              | false => False
            | some (_, _, z) => nx (pc + 3) ls (.inr (.inr (R q z)) :: r) (r0, e0, M, R, sl)
            | none => False
          | false => False
        | none => False
      | _ => False
    | _ => False
  | .putfield i => match st with
    | v :: .inr (.inr (some (q + 1))) :: r => match xm_kd K0 q r0 with
      | some (.inr (ci, fs)) => match mm_fl P (mm_kc P k) i with
        | some (cj, j) => match decide (ci = cj ∧ ((mm_ft P ci j).2 = false ∨ (mm_ki P k = true ∧ ci = mm_kc P k))) with
          | true => match fs[j]? with
            | some (0, _, z) => match v with
              | .inl x => match (mm_ft P ci j).1 with
                | .int => nx (pc + 3) ls r (r0, e0, x_up M q z x, R, sl)
                | .boolean => (0 ≤ x ∧ x ≤ 1) ∧ nx (pc + 3) ls r (r0, e0, x_up M q z x, R, sl)
                | _ => False
              | _ => False
            | some (1, _, z) => match v with
              | .inr (.inl x) => match (mm_ft P ci j).1 with
                | .long => nx (pc + 3) ls r (r0, e0, x_up M q z x, R, sl)
                | _ => False
              | _ => False
            | some (3, _, z) => match v with
              | .inr (.inr x) => match (mm_ft P ci j).1 with
                | .object _ => nx (pc + 3) ls r (r0, e0, M, x_upR R q z x, sl)
                | .array _ => nx (pc + 3) ls r (r0, e0, M, x_upR R q z x, sl)
                | _ => False
              | _ => False
            | _ => False
          | false => False
        | none => False
      | _ => False
    | _ => False
  | .iaload => match st with
    | .inl i :: .inr (.inr (some 0)) :: r => (0 ≤ i ∧ i < ((eX 0).1 : Int)) ∧ nx (pc + 1) ls (.inl ((eX 0).2 i.toNat).toInt :: r) (r0, e0, M, R, sl)
    | .inl i :: .inr (.inr (some (q + 1))) :: r => xm_arr K0 0 q (r0, e0, M, R, sl) i (nx (pc + 1) ls (.inl (M q i) :: r) (r0, e0, M, R, sl))
    | _ => False
  | .laload => match st with
    | .inl i :: .inr (.inr (some (q + 1))) :: r => xm_arr K0 1 q (r0, e0, M, R, sl) i (nx (pc + 1) ls (.inr (.inl (M q i)) :: r) (r0, e0, M, R, sl))
    | _ => False
  | .caload => match st with
    | .inl i :: .inr (.inr (some (q + 1))) :: r => xm_arr K0 2 q (r0, e0, M, R, sl) i (nx (pc + 1) ls (.inl (M q i) :: r) (r0, e0, M, R, sl))
    | _ => False
  | .baload => match st with
    | .inl i :: .inr (.inr (some (q + 1))) :: r => xm_arr K0 3 q (r0, e0, M, R, sl) i (nx (pc + 1) ls (.inl (M q i) :: r) (r0, e0, M, R, sl))
    | _ => False
  | .aaload => match st with
    | .inl i :: .inr (.inr (some (q + 1))) :: r => match xm_kd K0 q r0 with
      | some (.inl (t, n)) => match decide (4 ≤ t ∧ t < mm_nT P) with
        | true => (0 ≤ i ∧ i < (n : Int)) ∧ nx (pc + 1) ls (.inr (.inr (R q i)) :: r) (r0, e0, M, R, sl)
        | false => False
      | _ => False
    | _ => False
  | .iastore => match st with
    | .inl x :: .inl i :: .inr (.inr (some (q + 1))) :: r => xm_arr K0 0 q (r0, e0, M, R, sl) i (nx (pc + 1) ls r (r0, e0, x_up M q i x, R, sl))
    | _ => False
  | .lastore => match st with
    | .inr (.inl x) :: .inl i :: .inr (.inr (some (q + 1))) :: r => xm_arr K0 1 q (r0, e0, M, R, sl) i (nx (pc + 1) ls r (r0, e0, x_up M q i x, R, sl))
    | _ => False
  | .castore => match st with
    | .inl x :: .inl i :: .inr (.inr (some (q + 1))) :: r => xm_arr K0 2 q (r0, e0, M, R, sl) i (nx (pc + 1) ls r (r0, e0, x_up M q i (x_nar .char x), R, sl))
    | _ => False
  | .bastore => match st with
    | .inl x :: .inl i :: .inr (.inr (some (q + 1))) :: r => xm_arr K0 3 q (r0, e0, M, R, sl) i (nx (pc + 1) ls r (r0, e0, x_up M q i (x_nar .boolean x), R, sl))
    | _ => False
  | .aastore => match st with
    | .inr (.inr (some (q2 + 1))) :: .inl i :: .inr (.inr (some (q + 1))) :: r => match xm_kd K0 q r0 with
      | some (.inl (t, n)) => match decide (4 ≤ t) with
        | true => match xm_kd K0 q2 r0 with
          | some (.inr (ci, _)) => match mm_ec P t with
            | some cj => match decide (ci = cj) with
              | true => (0 ≤ i ∧ i < (n : Int)) ∧ nx (pc + 1) ls r (r0, e0, M, x_upR R q i (some (q2 + 1)), sl)
              | false => False
            | none => False
          | some (.inl (0, _)) => match mm_ec P t with
            | some cj => match decide (cj = 1000000) with
              | true => (0 ≤ i ∧ i < (n : Int)) ∧ nx (pc + 1) ls r (r0, e0, M, x_upR R q i (some (q2 + 1)), sl)
              | false => False
            | none => False
          | _ => False
        | false => False
      | _ => False
    | _ => False
  | .arraylength => match st with
    | .inr (.inr (some 0)) :: r => nx (pc + 1) ls (.inl ((eX 0).1 : Int) :: r) (r0, e0, M, R, sl)
    | .inr (.inr (some (q + 1))) :: r => match xm_kd K0 q r0 with
      | some (.inl (t, n)) => match decide (t < mm_nT P ∧ n ≤ 1000000) with
        | true => nx (pc + 1) ls (.inl (n : Int) :: r) (r0, e0, M, R, sl)
        | false => False
      | _ => False
    | _ => False
  | .newarray y => match st with
    | .inl x :: r => match mm_nt y with
      | some (t, _) => (0 ≤ x ∧ x ≤ 1000000 ∧ e0 + c0 + 1 ≤ mm_CM P ∧ sl + x.toNat ≤ mm_SM P) ∧ mm_fn x.toNat (fun n => nx (pc + 2) ls (.inr (.inr (some (e0 + c0 + 1))) :: r) (x_new r0 e0 (.inl (t, n)), e0 + 1, x_zM M (e0 + c0), x_zR R (e0 + c0), sl + n))
      | none => False
    | _ => False
  | .anewarray i => match st with
    | .inl x :: r => match mm_al P (mm_kc P k) i with
      | some t => match decide (4 ≤ t) with
        | true => (0 ≤ x ∧ x ≤ 1000000 ∧ e0 + c0 + 1 ≤ mm_CM P ∧ sl + x.toNat ≤ mm_SM P) ∧ mm_fn x.toNat (fun n => nx (pc + 3) ls (.inr (.inr (some (e0 + c0 + 1))) :: r) (x_new r0 e0 (.inl (t, n)), e0 + 1, x_zM M (e0 + c0), x_zR R (e0 + c0), sl + n))
        | false => False
      | none => False
    | _ => False
  | .new i => match mm_nl P (mm_kc P k) i with
    | some (ci, dv) => match xm_dvb dv with
      | true => (e0 + c0 + 1 ≤ mm_CM P ∧ sl + dv.length ≤ mm_SM P) ∧ nx (pc + 3) ls (.inr (.inr (some (e0 + c0 + 1))) :: st) (x_new r0 e0 (.inr (ci, xm_lay dv 0)), e0 + 1, x_zM M (e0 + c0), x_zR R (e0 + c0), sl + dv.length)
      | false => False
    | none => False
  | .ldc i => match mm_cI P (mm_kc P k) i with
    | some v => xm_ci v.toInt (fun z => nx (pc + 2) ls (.inl z :: st) (r0, e0, M, R, sl))
    | none => False
  | .ldc_w i => match mm_cI P (mm_kc P k) i with
    | some v => xm_ci v.toInt (fun z => nx (pc + 3) ls (.inl z :: st) (r0, e0, M, R, sl))
    | none => False
  | .ldc2_w i => match mm_cL P (mm_kc P k) i with
    | some v => xm_ci v.toInt (fun z => nx (pc + 3) ls (.inr (.inl z) :: st) (r0, e0, M, R, sl))
    | none => False
  | .ireturn => match st with
    | [.inl x] => match mm_kr P k with
      | some .int => Q (.inl (some (.inl x))) (r0, e0, M, R, sl)
      | some .boolean => (0 ≤ x ∧ x ≤ 1) ∧ Q (.inl (some (.inl x))) (r0, e0, M, R, sl)
      | some .char => (0 ≤ x ∧ x ≤ 65535) ∧ Q (.inl (some (.inl x))) (r0, e0, M, R, sl)
      | _ => False
    | _ => False
  | .lreturn => match st with
    | [.inr (.inl x)] => match mm_kr P k with
      | some .long => Q (.inl (some (.inr (.inl x)))) (r0, e0, M, R, sl)
      | _ => False
    | _ => False
  | .areturn => match st with
    | [.inr (.inr x)] => match mm_kr P k with
      | some (.object _) => Q (.inl (some (.inr (.inr x)))) (r0, e0, M, R, sl)
      | some (.array _) => Q (.inl (some (.inr (.inr x)))) (r0, e0, M, R, sl)
      | _ => False
    | _ => False
  | .return_ => match st with
    | [] => match mm_kr P k with
      | none => Q (.inl none) (r0, e0, M, R, sl)
      | some _ => False
    | _ => False
  | .invokestatic i => match mm_ml P (mm_kc P k) i with
    | some (k', na, 0) => xm_inv P call k nx Q k' na (fun _ => true) pc ls st (r0, e0, M, R, sl)
    | some (k', na, 5) => xm_inv P call k nx Q k' na (fun _ => true) pc ls st (r0, e0, M, R, sl)
    | some (_, _, 4) => match st with
      | .inl n :: .inl dp :: .inr (.inr (some (q2 + 1))) :: .inl sp :: .inr (.inr (some (q1 + 1))) :: r => match xm_kd K0 q1 r0 with
        | some (.inl (1, n1)) => match xm_kd K0 q2 r0 with
          | some (.inl (1, n2)) => match decide (xm_cats r ≤ 24) with
            | true => (0 ≤ sp ∧ 0 ≤ dp ∧ 0 ≤ n ∧ sp + n ≤ (n1 : Int) ∧ dp + n ≤ (n2 : Int)) ∧ nx (pc + 3) ls r (r0, e0, x_cpy M q1 q2 sp dp n, R, sl)
            | false => False
          | _ => False
        | _ => False
      | _ => False
    | _ => False
  | .invokevirtual i => match mm_ml P (mm_kc P k) i with
    | some (k', na, 1) => xm_inv P call k nx Q k' na (fun as => xm_recv P K0 k' as (r0, e0, M, R, sl)) pc ls st (r0, e0, M, R, sl)
    | some (k', na, 7) => xm_inv P call k nx Q k' na xm_isS pc ls st (r0, e0, M, R, sl)
    | _ => False
  | .invokespecial i => match mm_ml P (mm_kc P k) i with
    | some (k', na, 2) => xm_inv P call k nx Q k' na xm_isref pc ls st (r0, e0, M, R, sl)
    | some (_, _, 3) => match st with
      | .inr (.inr (some _)) :: r => match decide (xm_cats r + 12 ≤ 64) with
        | true => nx (pc + 3) ls r (r0, e0, M, R, sl)
        | false => False
      | _ => False
    | _ => False
  | _ => False
/-- one step, with the places that have rows of their own -/
def xm_zF (P : mm_P) (eX : Nat → Nat × (Nat → Int32)) (K0 : List xk) (c0 : Nat) (call : xC) (k : Nat) (nx : xZ) (Q : xK) (pc : Nat) (ls : List (Nat × xv)) (st : List xv) (r0 : Nat → Option xk) (e0 : Nat) (M : Nat → Int → Int) (R : Nat → Int → Option Nat) (sl : Nat) : Prop :=
  match mm_xt P k pc with
  | some ci => (e0 + c0 + 1 ≤ mm_CM P ∧ sl + 6 ≤ mm_SM P ∧ xm_cats st ≤ 8) ∧ Q (.inr (ci, e0 + c0 + 1)) (x_new r0 e0 (.inr (ci, [])), e0 + 1, x_zM M (e0 + c0), x_zR R (e0 + c0), sl + 6)
  | none =>
  match mm_sw P k pc with
  | some (lo, dt, ts) => match st with
    | .inl x :: r => ((x < lo ∨ lo + (ts.length : Int) - 1 < x) → nx dt ls r (r0, e0, M, R, sl)) ∧ mm_swl x lo ts (fun t => nx t ls r (r0, e0, M, R, sl))
    | _ => False
  | none =>
  match mm_lk P k pc with
  | some (dt, ps) => match st with
    | .inl x :: r => mm_lks x ps (fun t => nx t ls r (r0, e0, M, R, sl)) (nx dt ls r (r0, e0, M, R, sl))
    | _ => False
  | none =>
  match mm_gs P k pc with
  | some (j, _, 0, _) => nx (pc + 4) ls (.inl ((eX (j + 1)).1 : Int) :: st) (r0, e0, M, R, sl)
  | some (j, _, i + 1, w) => match xm_get ls i with
    | some (.inl x) => (0 ≤ x ∧ x < ((eX (j + 1)).1 : Int)) ∧ nx (pc + 3 + w + 1) ls (.inl ((eX (j + 1)).2 x.toNat).toInt :: st) (r0, e0, M, R, sl)
    | _ => False
  | none =>
  match mm_xs P k pc with
  | some (0, _) => nx (pc + 2) ls (.inr (.inr (some 1000003)) :: st) (r0, e0, M, R, sl)
  | some (1, _) => match st with
    | .inr (.inr (some q)) :: r => match decide (q = 1000003) with
      | true => nx (pc + 3) ls (.inr (.inr (some 1000004)) :: r) (r0, e0, M, R, sl)
      | false => False
    | _ => False
  | some (2, _) => match st with
    | .inr (.inr (some q)) :: r => match decide (q = 1000003) with
      | true => nx (pc + 3) ls (.inl 0 :: r) (r0, e0, M, R, sl)
      | false => False
    | _ => False
  | some (3, _) => match st with
    | .inl x :: .inr (.inr (some q)) :: r => match decide (q = 1000004) with
      | true => (0 ≤ x ∧ x < ((eX 4).1 : Int)) ∧ nx (pc + 1) ls (.inl ((eX 4).2 x.toNat).toInt :: r) (r0, e0, M, R, sl)
      | false => False
    | _ => False
  | some (4, _) => match st with
    | .inr (.inr (some q)) :: r => match decide (q = 1000004) with
      | true => nx (pc + 1) ls (.inl ((eX 4).1 : Int) :: r) (r0, e0, M, R, sl)
      | false => False
    | _ => False
  | some (_, c) => match decide (c ≤ 1000) with
    | true => nx (pc + 3) ls (.inl (c : Int) :: st) (r0, e0, M, R, sl)
    | false => False
  | none =>
  match mm_look (mm_kd P k) pc with
  | none => False
  | some ins => xm_sF P eX K0 c0 call k nx Q ins pc ls st r0 e0 M R sl
theorem xm_sF_eq (P : mm_P) (eX : Nat → Nat × (Nat → Int32)) (K0 : List xk) (c0 : Nat) (call : xC) (k : Nat) (nx : xZ) (Q : xK) (ins : Instr) (pc : Nat) (ls : List (Nat × xv)) (st : List xv) (r0 : Nat → Option xk) (e0 : Nat) (M : Nat → Int → Int) (R : Nat → Int → Option Nat) (sl : Nat) : xm_sF P eX K0 c0 call k nx Q ins pc ls st r0 e0 M R sl = xm_s P eX K0 c0 call k nx Q ins pc ls st (r0, e0, M, R, sl) := rfl
theorem xm_zF_eq (P : mm_P) (eX : Nat → Nat × (Nat → Int32)) (K0 : List xk) (c0 : Nat) (call : xC) (k : Nat) (nx : xZ) (Q : xK) (pc : Nat) (ls : List (Nat × xv)) (st : List xv) (r0 : Nat → Option xk) (e0 : Nat) (M : Nat → Int → Int) (R : Nat → Int → Option Nat) (sl : Nat) : xm_zF P eX K0 c0 call k nx Q pc ls st r0 e0 M R sl = xm_z P eX K0 c0 call k nx Q pc ls st (r0, e0, M, R, sl) := rfl
/-! runs -/
def xm_J (P : mm_P) (eX : Nat → Nat × (Nat → Int32)) (K0 : List xk) (c0 : Nat) (d k : Nat) (Q : xK) : xZ := fun pc ls st s => xm_ok K0 c0 s → xm_okL ls → xm_okS st → mm_l P eX (mm_call P eX d) k (xm_Q K0 c0 Q) pc (xm_L ls) (st.map xm_c) (xm_g K0 c0 s) s.2.2.2.2
def xm_call (P : mm_P) (eX : Nat → Nat × (Nat → Int32)) (K0 : List xk) (c0 : Nat) (d : Nat) : xC := fun k as s Q => xm_ok K0 c0 s → xm_okS as → mm_call P eX d k (as.map xm_c) (xm_g K0 c0 s) s.2.2.2.2 (xm_Q K0 c0 Q)
theorem xm_J_mono {P : mm_P} {eX : Nat → Nat × (Nat → Int32)} {K0 : List xk} {c0 d d' k pc : Nat} {Q Q' : xK} {ls : List (Nat × xv)} {st : List xv} {s : xs} (hd : d ≤ d') (hQ : ∀ o s, Q o s → Q' o s) (h : xm_J P eX K0 c0 d k Q pc ls st s) : xm_J P eX K0 c0 d' k Q' pc ls st s := fun a b c =>
  mm_l_mono (mm_call_mono d') (mm_call_deep d d' hd) (fun _ _ _ ⟨o', s', h1, h2, h3, h4, h5, h6⟩ => ⟨o', s', h1, h2, h3, h4, h5, hQ _ _ h6⟩) (.inl rfl) (h a b c)
theorem xm_call_mono {P : mm_P} {eX : Nat → Nat × (Nat → Int32)} {K0 : List xk} {c0 d d' k : Nat} {Q Q' : xK} {as : List xv} {s : xs} (hd : d ≤ d') (hQ : ∀ o s, Q o s → Q' o s) (h : xm_call P eX K0 c0 d k as s Q) : xm_call P eX K0 c0 d' k as s Q' := fun a b =>
  mm_call_deep d d' hd _ _ _ _ _ _ (fun _ _ _ ⟨o', s', h1, h2, h3, h4, h5, h6⟩ => ⟨o', s', h1, h2, h3, h4, h5, hQ _ _ h6⟩) (h a b)
def xm_fl {α : Type} : List α → (List α → Prop) → Prop
  | [], k => k []
  | a :: r, k => xm_fl r (fun r => k (a :: r))
theorem xm_fl_eq {α : Type} : ∀ (l : List α) (k : List α → Prop), xm_fl l k = k l
  | [], k => rfl
  | a :: r, k => xm_fl_eq r (fun r => k (a :: r))
def xm_pick (ls : List (Nat × xv)) : List Nat → (List (Nat × xv) → Prop) → Prop
  | [], k => k []
  | i :: r, k => match xm_get ls i with
    | some v => xm_pick ls r (fun l => k ((i, v) :: l))
    | none => False
theorem xm_pick_ok {ls : List (Nat × xv)} : ∀ (lv : List Nat) (k : List (Nat × xv) → Prop), xm_pick ls lv k → ∃ pl, k pl ∧ pl.map Prod.fst = lv ∧ ∀ q ∈ pl, xm_get ls q.1 = some q.2
  | [], k, h => ⟨[], h, rfl, fun _ h => by cases h⟩
  | i :: r, k, h => by
    unfold xm_pick at h
    split at h
    · rename_i v hv
      obtain ⟨pl, h1, h2, h3⟩ := xm_pick_ok r _ h
      refine ⟨(i, v) :: pl, h1, by rw [List.map_cons, h2], fun q hq => ?_⟩
      rcases List.mem_cons.mp hq with rfl | hq
      · exact hv
      · exact h3 q hq
    · exact h.elim
def xm_ndn : List Nat → Bool
  | [] => true
  | i :: r => r.all (fun j => !(Nat.beq i j)) && xm_ndn r
theorem xm_ndn_ok : ∀ {l : List Nat}, xm_ndn l = true → l.Nodup
  | [], _ => List.nodup_nil
  | i :: r, h => by
    unfold xm_ndn at h
    rw [Bool.and_eq_true] at h
    rw [List.nodup_cons]
    refine ⟨fun hm => ?_, xm_ndn_ok h.2⟩
    have := List.all_eq_true.mp h.1 i hm
    simp at this
abbrev xF : Type := Nat → Nat → xK → xZ
def xm_w (P : mm_P) (eX : Nat → Nat × (Nat → Int32)) (K0 : List xk) (c0 : Nat) (cut : Nat → Nat → Option (List Nat)) (F : xF) (call : xC) (d k : Nat) (Q : xK) (n : Nat) : xZ :=
  Nat.rec (motive := fun _ => xZ) (fun _ _ _ _ => False) (fun _ ih => fun pc ls st s => match s with
    | (r0, e0, M, R, sl) => xm_zF P eX K0 c0 call k (fun pc ls st s => mm_fn pc (fun pc => xm_fl ls (fun ls => xm_fl st (fun st => match cut k pc with
      | some lv => match xm_ndn lv with
        | true => xm_pick ls lv (fun ls => F d k Q pc ls st s)
        | false => False
      | none => ih pc ls st s)))) Q pc ls st r0 e0 M R sl) n
theorem xm_w_ok {P : mm_P} {eX : Nat → Nat × (Nat → Int32)} {K0 : List xk} {c0 : Nat} (cut : Nat → Nat → Option (List Nat)) {F : xF} {call : xC} {d k : Nat} {Q : xK} (hE : ∀ j, (eX j).1 ≤ 1000000) (hF : ∀ pc ls st s, F d k Q pc ls st s → xm_J P eX K0 c0 d k Q pc ls st s) (hC : ∀ k as s Q, call k as s Q → xm_call P eX K0 c0 d k as s Q) : ∀ n pc ls st s, xm_w P eX K0 c0 cut F call d k Q n pc ls st s → xm_J P eX K0 c0 d k Q pc ls st s
  | 0, _, _, _, _, h => h.elim
  | n + 1, pc, ls, st, (r0, e0, M, R, sl), h => by
    intro ok ol os
    have ih := xm_w_ok cut hE hF hC n
    change xm_zF P eX K0 c0 call k (fun pc ls st s => mm_fn pc (fun pc => xm_fl ls (fun ls => xm_fl st (fun st => match cut k pc with
      | some lv => match xm_ndn lv with
        | true => xm_pick ls lv (fun ls => F d k Q pc ls st s)
        | false => False
      | none => xm_w P eX K0 c0 cut F call d k Q n pc ls st s)))) Q pc ls st r0 e0 M R sl at h
    rw [xm_zF_eq] at h
    refine mm_l_fold (mm_call_mono d) (xm_z_ok hE (mm_call_mono d) (fun k as s Q h a b => hC _ _ _ _ h a b) (fun pc ls st s q a b c => ?_) ok ol os h)
    rw [mm_fn_eq, xm_fl_eq, xm_fl_eq] at q
    split at q
    · rename_i lv hcut
      split at q
      · rename_i hnd
        obtain ⟨pl, q1, q2, q3⟩ := xm_pick_ok _ _ q
        have hpl : xm_okL pl := fun w hw => xm_get_ok b (q3 w hw)
        refine mm_l_mono (mm_call_mono d) (mm_call_mono d) (fun _ _ _ q => q) (.inr ⟨?_, ?_⟩) (hF _ _ _ _ q1 a hpl c)
        · unfold mm_nd
          rw [xm_L, List.map_map]
          have : (Prod.fst ∘ fun q : Nat × xv => (q.1, xm_c q.2)) = Prod.fst := rfl
          rw [this, q2]
          exact xm_ndn_ok hnd
        · intro i v hv
          rw [xm_get_L] at hv ⊢
          obtain ⟨w, hw, rfl⟩ := Option.map_eq_some_iff.mp hv
          have : (i, w) ∈ pl := by
            clear q1 q2 q3 hpl hv
            induction pl with
            | nil => simp [xm_get] at hw
            | cons u r ih =>
              unfold xm_get at hw
              split at hw
              · rename_i hu
                cases hw
                subst hu
                exact List.mem_cons_self
              · exact List.mem_cons_of_mem _ (ih hw)
          rw [q3 _ this]
          rfl
      · exact q.elim
    · exact ih _ _ _ _ q a b c
def xm_args : Nat → List xv → List (Nat × xv)
  | _, [] => []
  | i, v :: r => (i, v) :: xm_args (if xm_cat v = 2 then i + 2 else i + 1) r
theorem xm_args_L : ∀ (as : List xv) (i : Nat), xm_L (xm_args i as) = lv_args i (as.map xm_c)
  | [], i => rfl
  | v :: r, i => by
    show (i, xm_c v) :: xm_L (xm_args _ r) = (i, xm_c v) :: lv_args _ (r.map xm_c)
    rw [xm_args_L r, xm_c_cat]
theorem xm_args_ok : ∀ (as : List xv) (i : Nat), xm_okS as → xm_okL (xm_args i as)
  | [], i, h => fun _ h => by cases h
  | v :: r, i, h => fun q hq => by
    rcases List.mem_cons.mp hq with rfl | hq
    · exact xo_hd h
    · exact xm_args_ok r _ (xo_tl h) q hq
def xm_fa : Nat → List xv → (List (Nat × xv) → Prop) → Prop
  | _, [], k => k []
  | i, v :: r, k => match v with
    | .inr (.inl z) => mm_fn (i + 2) (fun j => xm_fa j r (fun l => k ((i, .inr (.inl z)) :: l)))
    | .inl z => mm_fn (i + 1) (fun j => xm_fa j r (fun l => k ((i, .inl z) :: l)))
    | .inr (.inr z) => mm_fn (i + 1) (fun j => xm_fa j r (fun l => k ((i, .inr (.inr z)) :: l)))
theorem xm_fa_eq : ∀ (as : List xv) (i : Nat) (k : List (Nat × xv) → Prop), xm_fa i as k = k (xm_args i as)
  | [], i, k => rfl
  | v :: r, i, k => by
    unfold xm_fa xm_args
    rcases v with z | z | z <;> (dsimp only; rw [mm_fn_eq, xm_fa_eq r]; rfl)
theorem xm_enter {P : mm_P} {eX : Nat → Nat × (Nat → Int32)} {K0 : List xk} {c0 d k : Nat} {as : List xv} {s : xs} {Q : xK} (h : xm_J P eX K0 c0 d k Q 0 (xm_args 0 as) [] s) : xm_call P eX K0 c0 (d + 1) k as s Q := fun a b => by
  have := h a (xm_args_ok as 0 b) (fun _ h => by cases h)
  rw [xm_args_L] at this
  exact this
def xm_cc (P : mm_P) (eX : Nat → Nat × (Nat → Int32)) (K0 : List xk) (c0 : Nat) (cut : Nat → Nat → Option (List Nat)) (inl : Nat → Bool) (F : xF) (C : Nat → xC) (d : Nat) : xC :=
  Nat.rec (motive := fun _ => xC) (fun _ _ _ _ => False) (fun d ih => fun k as s Q => match inl k with
    | true => xm_fa 0 as (fun ls => xm_w P eX K0 c0 cut F ih d k Q 400 0 ls [] s)
    | false => C (d + 1) k as s Q) d
theorem xm_cc_ok {P : mm_P} {eX : Nat → Nat × (Nat → Int32)} {K0 : List xk} {c0 : Nat} (cut : Nat → Nat → Option (List Nat)) (inl : Nat → Bool) (hE : ∀ j, (eX j).1 ≤ 1000000) : ∀ d k as s Q, xm_cc P eX K0 c0 cut inl (xm_J P eX K0 c0) (xm_call P eX K0 c0) d k as s Q → xm_call P eX K0 c0 d k as s Q
  | 0, _, _, _, _, h => h.elim
  | d + 1, k, as, s, Q, h => by
    change (match inl k with
      | true => xm_fa 0 as (fun ls => xm_w P eX K0 c0 cut (xm_J P eX K0 c0) (xm_cc P eX K0 c0 cut inl (xm_J P eX K0 c0) (xm_call P eX K0 c0) d) d k Q 400 0 ls [] s)
      | false => xm_call P eX K0 c0 (d + 1) k as s Q) at h
    split at h
    · rw [xm_fa_eq] at h
      exact xm_enter (xm_w_ok cut hE (fun _ _ _ _ q => q) (xm_cc_ok cut inl hE d) _ _ _ _ _ h)
    · exact h
/-- a call, run -/
theorem xm_run {P : mm_P} {eX : Nat → Nat × (Nat → Int32)} {K0 : List xk} {c0 : Nat} (hE : ∀ j, (eX j).1 ≤ 1000000) (cut : Nat → Nat → Option (List Nat)) (inl : Nat → Bool) {d k : Nat} {as : List xv} {s : xs} {Q : xK}
    (h : ∀ (F : xF) (C : Nat → xC), (∀ d k Q pc ls st s, xm_J P eX K0 c0 d k Q pc ls st s → F d k Q pc ls st s) → (∀ d k as s Q, xm_call P eX K0 c0 d k as s Q → C d k as s Q) → xm_fa 0 as (fun ls => xm_w P eX K0 c0 cut F (xm_cc P eX K0 c0 cut inl F C d) d k Q 400 0 ls [] s)) : xm_call P eX K0 c0 (d + 1) k as s Q := by
  have h1 := h (xm_J P eX K0 c0) (xm_call P eX K0 c0) (fun _ _ _ _ _ _ _ q => q) (fun _ _ _ _ _ q => q)
  rw [xm_fa_eq] at h1
  exact xm_enter (xm_w_ok cut hE (fun _ _ _ _ q => q) (xm_cc_ok cut inl hE d) _ _ _ _ _ h1)
/-- from a place in a method on -/
theorem xm_on {P : mm_P} {eX : Nat → Nat × (Nat → Int32)} {K0 : List xk} {c0 : Nat} (hE : ∀ j, (eX j).1 ≤ 1000000) (cut : Nat → Nat → Option (List Nat)) (inl : Nat → Bool) {d k pc : Nat} {ls : List (Nat × xv)} {st : List xv} {s : xs} {Q : xK}
    (h : ∀ (F : xF) (C : Nat → xC), (∀ d k Q pc ls st s, xm_J P eX K0 c0 d k Q pc ls st s → F d k Q pc ls st s) → (∀ d k as s Q, xm_call P eX K0 c0 d k as s Q → C d k as s Q) → xm_w P eX K0 c0 cut F (xm_cc P eX K0 c0 cut inl F C d) d k Q 400 pc ls st s) : xm_J P eX K0 c0 d k Q pc ls st s :=
  xm_w_ok cut hE (fun _ _ _ _ q => q) (xm_cc_ok cut inl hE d) _ _ _ _ _ (h (xm_J P eX K0 c0) (xm_call P eX K0 c0) (fun _ _ _ _ _ _ _ q => q) (fun _ _ _ _ _ q => q))
/-- what is known of a state may be used -/
theorem xm_J_ok {P : mm_P} {eX : Nat → Nat × (Nat → Int32)} {K0 : List xk} {c0 d k pc : Nat} {Q : xK} {ls : List (Nat × xv)} {st : List xv} {s : xs} (h : xm_ok K0 c0 s → xm_okL ls → xm_okS st → xm_J P eX K0 c0 d k Q pc ls st s) : xm_J P eX K0 c0 d k Q pc ls st s := fun a b c => h a b c a b c
theorem xm_call_ok {P : mm_P} {eX : Nat → Nat × (Nat → Int32)} {K0 : List xk} {c0 d k : Nat} {Q : xK} {as : List xv} {s : xs} (h : xm_ok K0 c0 s → xm_okS as → xm_call P eX K0 c0 d k as s Q) : xm_call P eX K0 c0 d k as s Q := fun a b => h a b a b

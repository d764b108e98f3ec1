/-! READING what was written -/
theorem x_up_p {M : Nat → Int → Int} {q p : Nat} {j z i : Int} (h : p ≠ q) : x_up M q j z p i = M p i := by rw [x_up_ne h]
theorem x_up_s {M : Nat → Int → Int} {q : Nat} {j z i : Int} (h : i = j) : x_up M q j z q i = z := by
  unfold x_up
  rw [if_pos ⟨rfl, h⟩]
theorem x_up_o {M : Nat → Int → Int} {q : Nat} {j z i : Int} (h : i ≠ j) : x_up M q j z q i = M q i := by
  unfold x_up
  rw [if_neg (fun h' => h h'.2)]
theorem x_upR_p {M : Nat → Int → Option Nat} {q p : Nat} {j i : Int} {z : Option Nat} (h : p ≠ q) : x_upR M q j z p i = M p i := by rw [x_upR_ne h]
theorem x_upR_s {M : Nat → Int → Option Nat} {q : Nat} {j i : Int} {z : Option Nat} (h : i = j) : x_upR M q j z q i = z := by
  unfold x_upR
  rw [if_pos ⟨rfl, h⟩]
theorem x_upR_o {M : Nat → Int → Option Nat} {q : Nat} {j i : Int} {z : Option Nat} (h : i ≠ j) : x_upR M q j z q i = M q i := by
  unfold x_upR
  rw [if_neg (fun h' => h h'.2)]
def x_fill (M : Nat → Int → Int) (q : Nat) (a n z : Int) : Nat → Int → Int := fun p j => if p = q ∧ a ≤ j ∧ j < a + n then z else M p j
theorem x_fill_0 (M : Nat → Int → Int) (q : Nat) (a z : Int) : x_fill M q a 0 z = M := by
  funext p j
  unfold x_fill
  rw [if_neg (by omega)]
theorem x_fill_s {M : Nat → Int → Int} {q : Nat} {a n i z : Int} (h : i = a + n) (hn : 0 ≤ n) : x_up (x_fill M q a n z) q i z = x_fill M q a (n + 1) z := by
  funext p j
  simp only [x_fill, x_up]
  by_cases h1 : p = q ∧ j = i
  · rw [if_pos h1, if_pos (by omega)]
  · rw [if_neg h1]
    by_cases h2 : p = q ∧ a ≤ j ∧ j < a + n
    · rw [if_pos h2, if_pos (by omega)]
    · rw [if_neg h2, if_neg (by omega)]
theorem x_fill_p {M : Nat → Int → Int} {q p : Nat} {a n z i : Int} (h : p ≠ q) : x_fill M q a n z p i = M p i := by
  unfold x_fill
  rw [if_neg (fun h' => h h'.1)]
theorem x_fill_i {M : Nat → Int → Int} {q : Nat} {a n z i : Int} (h : a ≤ i ∧ i < a + n) : x_fill M q a n z q i = z := by
  unfold x_fill
  rw [if_pos ⟨rfl, h⟩]
theorem x_fill_o {M : Nat → Int → Int} {q : Nat} {a n z i : Int} (h : i < a ∨ a + n ≤ i) : x_fill M q a n z q i = M q i := by
  unfold x_fill
  rw [if_neg (by omega)]
theorem x_cpy_p {M : Nat → Int → Int} {q1 q p : Nat} {sp dp n i : Int} (h : p ≠ q) : x_cpy M q1 q sp dp n p i = M p i := by
  unfold x_cpy
  rw [if_neg (fun h' => h h'.1)]
theorem x_cpy_i {M : Nat → Int → Int} {q1 q : Nat} {sp dp n i : Int} (h : dp ≤ i ∧ i < dp + n) : x_cpy M q1 q sp dp n q i = M q1 (sp + (i - dp)) := by
  unfold x_cpy
  rw [if_pos ⟨rfl, h⟩]
theorem x_cpy_o {M : Nat → Int → Int} {q1 q : Nat} {sp dp n i : Int} (h : i < dp ∨ dp + n ≤ i) : x_cpy M q1 q sp dp n q i = M q i := by
  unfold x_cpy
  rw [if_neg (by omega)]
theorem x_cpy_0 (M : Nat → Int → Int) (q1 q : Nat) (sp dp : Int) : x_cpy M q1 q sp dp 0 = M := by
  funext p j
  unfold x_cpy
  rw [if_neg (by omega)]
theorem x_cpy_s {M : Nat → Int → Int} {q1 q : Nat} {sp dp n i z : Int} (h : i = dp + n) (hn : 0 ≤ n) (hz : z = M q1 (sp + n)) : x_up (x_cpy M q1 q sp dp n) q i z = x_cpy M q1 q sp dp (n + 1) := by
  funext p j
  simp only [x_cpy, x_up]
  by_cases h1 : p = q ∧ j = i
  · rw [if_pos h1, if_pos (by omega), hz]
    congr 1
    omega
  · rw [if_neg h1]
    by_cases h2 : p = q ∧ dp ≤ j ∧ j < dp + n
    · rw [if_pos h2, if_pos (by omega)]
    · rw [if_neg h2, if_neg (by omega)]
theorem x_bool {x : Int} (h : 0 ≤ x ∧ x ≤ 1) : x_nar .boolean x = x := by
  have hb : x = 0 ∨ x = 1 := by omega
  rcases hb with rfl | rfl <;> rfl
theorem x_charN {x : Int} (h : 0 ≤ x ∧ x ≤ 65535) : x_nar .char x = x := by
  obtain ⟨n, rfl⟩ : ∃ n : Nat, x = (n : Int) := ⟨x.toNat, by omega⟩
  show ((Int32.ofNat n).toUInt32.toUInt16.toUInt32.toInt32).toInt = (n : Int)
  rw [x_char (by omega), show Int32.ofNat n = Int32.ofInt (n : Int) from rfl, i32_to ⟨by omega, by omega⟩]
theorem xm_cast {P : mm_P} {eX : Nat → Nat × (Nat → Int32)} {K0 : List xk} {c0 d k pc : Nat} {Q : xK} {ls ls' : List (Nat × xv)} {st st' : List xv} {s s' : xs} (h : xm_J P eX K0 c0 d k Q pc ls st s) (h1 : ls' = ls) (h2 : st' = st) (h3 : s' = s) : xm_J P eX K0 c0 d k Q pc ls' st' s' := by
  rw [h1, h2, h3]
  exact h
theorem xm_castc {P : mm_P} {eX : Nat → Nat × (Nat → Int32)} {K0 : List xk} {c0 d k : Nat} {Q : xK} {as as' : List xv} {s s' : xs} (h : xm_call P eX K0 c0 d k as s Q) (h1 : as' = as) (h3 : s' = s) : xm_call P eX K0 c0 d k as' s' Q := by
  rw [h1, h3]
  exact h
theorem x_zM_p {M : Nat → Int → Int} {q p : Nat} {i : Int} (h : p ≠ q) : x_zM M q p i = M p i := by
  unfold x_zM
  rw [if_neg h]
theorem x_zR_p {R : Nat → Int → Option Nat} {q p : Nat} {i : Int} (h : p ≠ q) : x_zR R q p i = R p i := by
  unfold x_zR
  rw [if_neg h]
/-- a whole array is another -/
def x_set (M : Nat → Int → Int) (q : Nat) (f : Int → Int) : Nat → Int → Int := fun p i => if p = q then f i else M p i
theorem x_set_p {M : Nat → Int → Int} {q p : Nat} {f : Int → Int} {i : Int} (h : p ≠ q) : x_set M q f p i = M p i := by
  unfold x_set
  rw [if_neg h]
theorem x_set_s {M : Nat → Int → Int} {q : Nat} {f : Int → Int} {i : Int} : x_set M q f q i = f i := by
  unfold x_set
  rw [if_pos rfl]
/-- a switch: this way; none of its ways -/
theorem sw_vac {x lo : Int} {r : List Nat} {p : Nat → Prop} (h : x < lo) : mm_swl x lo r p := (mm_swl_iff r lo).mpr (fun i t h1 h2 => absurd h2 (by omega))
theorem sw_hit {x lo : Int} {X Y : Prop} (hx : x = lo) (hp : X) (hY : Y) : (x = lo → X) ∧ Y := ⟨fun _ => hp, hY⟩
theorem sw_def {x lo : Int} {ts : List Nat} {p : Nat → Prop} {A : Prop} (hx : x < lo ∨ lo + (ts.length : Int) - 1 < x) (hA : A) : ((x < lo ∨ lo + (ts.length : Int) - 1 < x) → A) ∧ mm_swl x lo ts p := ⟨fun _ => hA, (mm_swl_iff ts lo).mpr (fun i t h1 h2 => by
  have := (List.getElem?_eq_some_iff.mp h1).1
  omega)⟩
theorem i_tdiv2 {k : Int} (h : 0 ≤ k) : k.tdiv 2 = k / 2 := Int.tdiv_eq_ediv_of_nonneg h
theorem i_tmod2 {k : Int} (h : 0 ≤ k) : k.tmod 2 = k % 2 := Int.tmod_eq_emod_of_nonneg h
theorem sw_in {x lo : Int} {ts : List Nat} {p : Nat → Prop} {A : Prop} (hx : lo ≤ x ∧ x ≤ lo + (ts.length : Int) - 1) (h : mm_swl x lo ts p) : ((x < lo ∨ lo + (ts.length : Int) - 1 < x) → A) ∧ mm_swl x lo ts p := ⟨fun q => absurd q (by omega), h⟩
theorem sw_next {x lo : Int} {X Y : Prop} (hx : ¬ x = lo) (h : Y) : (x = lo → X) ∧ Y := ⟨fun q => absurd q hx, h⟩

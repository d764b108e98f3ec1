/-! THE CELLS that the constructors make: their kinds, what they hold at first; by wip/statex.py. -/
def tb_K0 : List xk := [.inr (0, [(2, 2, 0), (2, 7, 1), (2, 8, 2), (2, 9, 3), (2, 38, 4), (2, 43, 5), (2, 48, 6), (2, 56, 7), (2, 80, 8), (0, 0, 9), (0, 0, 10), (0, 0, 11)]),
  .inr (1, [(2, 3, 0), (0, 0, 1), (2, 4, 2), (2, 5, 3), (2, 6, 4), (0, 0, 5), (0, 0, 6), (0, 0, 7), (0, 0, 8), (0, 0, 9)]),
  .inl (2, 480),
  .inl (0, 481),
  .inl (0, 481),
  .inl (0, 481),
  .inr (2, [(3, 0, 0), (3, 0, 1), (0, 0, 2)]),
  .inl (4, 9),
  .inr (6, [(2, 10, 0), (3, 0, 1), (3, 0, 2), (0, 0, 3), (0, 0, 4), (2, 34, 5), (0, 0, 6), (2, 35, 7), (0, 0, 8), (2, 36, 9), (2, 37, 10), (0, 0, 11), (0, 0, 12), (0, 0, 13), (0, 0, 14)]),
  .inr (5, [(2, 11, 0), (2, 15, 1), (4, 48, 2), (2, 16, 3), (4, 200, 4), (2, 17, 5), (0, 0, 6), (0, 0, 7), (0, 0, 8), (0, 0, 9), (0, 0, 10), (0, 0, 11), (0, 0, 12), (0, 0, 13)]),
  .inr (3, [(3, 0, 0), (3, 0, 1), (2, 14, 2), (0, 0, 3), (0, 0, 4), (0, 0, 5), (0, 0, 6)]),
  .inl (1, 2000),
  .inl (1, 2000),
  .inl (1, 25),
  .inl (1, 1200),
  .inl (0, 1200),
  .inl (5, 8),
  .inr (4, [(2, 19, 0), (0, 0, 1)]),
  .inl (1, 26),
  .inr (4, [(2, 21, 0), (0, 0, 1)]),
  .inl (1, 26),
  .inr (4, [(2, 23, 0), (0, 0, 1)]),
  .inl (1, 26),
  .inr (4, [(2, 25, 0), (0, 0, 1)]),
  .inl (1, 26),
  .inr (4, [(2, 27, 0), (0, 0, 1)]),
  .inl (1, 26),
  .inr (4, [(2, 29, 0), (0, 0, 1)]),
  .inl (1, 26),
  .inr (4, [(2, 31, 0), (0, 0, 1)]),
  .inl (1, 26),
  .inr (4, [(2, 33, 0), (0, 0, 1)]),
  .inl (1, 26),
  .inl (5, 300),
  .inl (6, 20),
  .inl (0, 24),
  .inl (5, 24),
  .inr (7, [(2, 39, 0), (2, 40, 1), (2, 41, 2), (2, 42, 3), (3, 0, 4), (3, 0, 5), (0, 0, 6)]),
  .inl (7, 8),
  .inl (0, 8),
  .inl (0, 8),
  .inl (3, 8),
  .inr (8, [(2, 44, 0), (2, 45, 1), (2, 46, 2), (2, 47, 3)]),
  .inl (3, 6),
  .inl (0, 6),
  .inl (0, 240),
  .inl (0, 4),
  .inr (9, [(2, 49, 0), (2, 50, 1), (2, 51, 2), (2, 52, 3), (2, 53, 4), (2, 54, 5), (2, 55, 6), (0, 0, 7), (0, 0, 8), (0, 0, 9), (0, 0, 10), (0, 0, 11), (0, 0, 12), (3, 0, 13)]),
  .inl (0, 600),
  .inl (0, 200),
  .inl (0, 600),
  .inl (0, 60),
  .inl (0, 60),
  .inl (0, 100),
  .inl (0, 8),
  .inr (5, [(2, 57, 0), (2, 61, 1), (4, 40, 2), (2, 62, 3), (4, 0, 4), (2, 63, 5), (0, 0, 6), (0, 0, 7), (0, 0, 8), (0, 0, 9), (0, 0, 10), (0, 0, 11), (0, 0, 12), (0, 0, 13)]),
  .inr (3, [(3, 0, 0), (3, 0, 1), (2, 60, 2), (0, 0, 3), (0, 0, 4), (0, 0, 5), (0, 0, 6)]),
  .inl (1, 2000),
  .inl (1, 2000),
  .inl (1, 25),
  .inl (1, 1000),
  .inl (0, 0),
  .inl (5, 8),
  .inr (4, [(2, 65, 0), (0, 0, 1)]),
  .inl (1, 26),
  .inr (4, [(2, 67, 0), (0, 0, 1)]),
  .inl (1, 26),
  .inr (4, [(2, 69, 0), (0, 0, 1)]),
  .inl (1, 26),
  .inr (4, [(2, 71, 0), (0, 0, 1)]),
  .inl (1, 26),
  .inr (4, [(2, 73, 0), (0, 0, 1)]),
  .inl (1, 26),
  .inr (4, [(2, 75, 0), (0, 0, 1)]),
  .inl (1, 26),
  .inr (4, [(2, 77, 0), (0, 0, 1)]),
  .inl (1, 26),
  .inr (4, [(2, 79, 0), (0, 0, 1)]),
  .inl (1, 26),
  .inr (4, [(2, 81, 0), (0, 0, 1)]),
  .inl (1, 26),
  .inr (12, [(0, 0, 0), (2, 83, 1), (0, 0, 2), (2, 84, 3), (2, 85, 4), (2, 86, 5), (0, 0, 6), (0, 0, 7), (0, 0, 8), (0, 0, 9), (0, 0, 10), (2, 87, 11), (2, 88, 12), (2, 89, 13), (2, 90, 14), (2, 91, 15), (2, 92, 16), (2, 93, 17), (2, 94, 18), (2, 95, 19), (2, 96, 20), (0, 0, 21), (2, 97, 22), (2, 98, 23), (2, 99, 24), (2, 100, 25), (2, 101, 26), (2, 102, 27), (2, 103, 28), (2, 104, 29), (0, 0, 30), (2, 105, 31), (2, 106, 32), (2, 107, 33), (0, 0, 34), (2, 108, 35), (2, 109, 36), (2, 110, 37), (0, 0, 38), (2, 111, 39), (2, 112, 40), (2, 113, 41), (0, 0, 42), (2, 114, 43), (2, 115, 44), (2, 116, 45), (2, 117, 46), (2, 118, 47), (0, 0, 48), (2, 119, 49), (0, 0, 50), (0, 0, 51), (2, 120, 52), (2, 121, 53), (2, 122, 54), (2, 123, 55), (2, 124, 56), (2, 125, 57), (2, 126, 58), (2, 127, 59), (2, 128, 60), (0, 0, 61), (0, 0, 62), (0, 0, 63), (0, 0, 64), (0, 0, 65), (0, 0, 66), (0, 0, 67), (2, 129, 68), (2, 130, 69), (2, 131, 70), (2, 132, 71), (2, 133, 72), (2, 134, 73), (0, 0, 74), (0, 0, 75), (0, 0, 76), (0, 0, 77), (2, 135, 78), (0, 0, 79), (2, 136, 80), (2, 137, 81), (2, 138, 82), (0, 0, 83), (2, 139, 84), (2, 140, 85), (2, 141, 86), (2, 142, 87), (2, 143, 88), (2, 144, 89), (0, 0, 90), (0, 0, 91), (0, 0, 92), (1, 0, 93), (0, 0, 94), (0, 0, 95), (0, 0, 96), (2, 145, 97), (0, 0, 98), (2, 146, 99), (2, 147, 100), (0, 0, 101), (0, 0, 102), (2, 148, 103), (2, 149, 104), (2, 150, 105), (2, 151, 106), (2, 152, 107), (2, 153, 108), (2, 154, 109), (2, 155, 110), (2, 156, 111), (0, 0, 112), (0, 0, 113), (2, 157, 114), (2, 158, 115), (2, 159, 116), (2, 160, 117), (0, 0, 118), (0, 0, 119), (2, 161, 120), (2, 162, 121), (2, 163, 122), (2, 164, 123), (2, 165, 124), (2, 166, 125), (0, 0, 126), (2, 167, 127), (0, 0, 128), (0, 0, 129), (2, 168, 130), (2, 169, 131), (2, 170, 132), (2, 171, 133), (0, 0, 134), (0, 0, 135), (0, 0, 136), (0, 0, 137), (0, 0, 138), (0, 0, 139), (0, 0, 140), (0, 0, 141), (2, 172, 142), (0, 0, 143), (2, 173, 144)]),
  .inl (2, 480),
  .inl (0, 482),
  .inl (0, 482),
  .inl (0, 482),
  .inl (0, 9),
  .inl (0, 36),
  .inl (0, 9),
  .inl (0, 9),
  .inl (0, 9),
  .inl (0, 45),
  .inl (0, 45),
  .inl (0, 9),
  .inl (0, 9),
  .inl (0, 9),
  .inl (0, 6300),
  .inl (0, 6300),
  .inl (0, 6300),
  .inl (0, 6300),
  .inl (0, 6300),
  .inl (0, 6300),
  .inl (0, 6300),
  .inl (3, 6300),
  .inl (0, 4500),
  .inl (0, 4500),
  .inl (0, 4500),
  .inl (0, 2340),
  .inl (0, 2340),
  .inl (0, 2340),
  .inl (0, 1800),
  .inl (0, 1800),
  .inl (0, 1800),
  .inl (0, 1440),
  .inl (0, 1440),
  .inl (0, 1440),
  .inl (0, 1440),
  .inl (0, 1440),
  .inl (0, 2700),
  .inl (0, 100),
  .inl (0, 100),
  .inl (0, 100),
  .inl (0, 100),
  .inl (0, 100),
  .inl (0, 100),
  .inl (0, 100),
  .inl (0, 100),
  .inl (0, 500),
  .inl (0, 200),
  .inl (0, 200),
  .inl (0, 200),
  .inl (3, 200),
  .inl (0, 200),
  .inl (0, 200),
  .inl (1, 1200),
  .inl (0, 24),
  .inl (0, 24),
  .inl (1, 600),
  .inl (1, 7500),
  .inl (3, 300),
  .inl (1, 25),
  .inl (1, 25),
  .inl (1, 25),
  .inl (1, 25),
  .inl (1, 2100),
  .inl (1, 2100),
  .inl (1, 25),
  .inl (0, 700),
  .inl (0, 700),
  .inl (0, 700),
  .inl (0, 700),
  .inl (0, 700),
  .inl (0, 700),
  .inl (0, 700),
  .inl (0, 700),
  .inl (0, 700),
  .inl (0, 8),
  .inl (0, 9600),
  .inl (0, 9600),
  .inl (3, 9600),
  .inl (0, 16),
  .inl (3, 6),
  .inl (0, 6),
  .inl (0, 240),
  .inl (0, 4),
  .inl (0, 600),
  .inl (0, 200),
  .inl (0, 60),
  .inl (0, 60),
  .inl (0, 960),
  .inl (0, 100),
  .inl (0, 5),
  .inl (1, 1000),
  .inl (1, 1)]
def tb_M0 (c : Nat) : Int → Int := match c with
  | 0 => fun j => if j = 10 then -1 else 0
  | 6 => fun j => if j = 2 then -1 else 0
  | 8 => fun j => if j = 4 then -1 else 0
  | 9 => fun j => if j = 11 then 1 else if j = 13 then -1 else 0
  | 10 => fun j => if j = 4 then 25 else 0
  | 47 => fun j => if j = 12 then -1 else 0
  | 55 => fun j => if j = 11 then 1 else if j = 13 then -1 else 0
  | 56 => fun j => if j = 4 then 25 else 0
  | 81 => fun j => if j = 7 then -1 else if j = 66 then -1 else if j = 94 then -1 else if j = 95 then -1 else if j = 137 then -1 else 0
  | _ => fun _ => 0
def tb_R0 (c : Nat) : Int → Option Nat := match c with
  | 10 => fun j => if j = 0 then some 12 else if j = 1 then some 13 else none
  | 56 => fun j => if j = 0 then some 58 else if j = 1 then some 59 else none
  | 16 => fun j => if j = 0 then some 18 else if j = 1 then some 20 else if j = 2 then some 22 else if j = 3 then some 24 else if j = 4 then some 26 else if j = 5 then some 28 else if j = 6 then some 30 else if j = 7 then some 32 else none
  | 62 => fun j => if j = 0 then some 64 else if j = 1 then some 66 else if j = 2 then some 68 else if j = 3 then some 70 else if j = 4 then some 72 else if j = 5 then some 74 else if j = 6 then some 76 else if j = 7 then some 78 else none
  | _ => fun _ => none
theorem tb_R0_16 : (fun j : Nat => tb_R0 16 (j : Int)) = va_up (va_up (va_up (va_up (va_up (va_up (va_up (va_up (fun _ => none) 0 (some 18)) 1 (some 20)) 2 (some 22)) 3 (some 24)) 4 (some 26)) 5 (some 28)) 6 (some 30)) 7 (some 32) := by
  funext j
  unfold va_up
  show (if (j : Int) = 0 then some 18 else if (j : Int) = 1 then some 20 else if (j : Int) = 2 then some 22 else if (j : Int) = 3 then some 24 else if (j : Int) = 4 then some 26 else if (j : Int) = 5 then some 28 else if (j : Int) = 6 then some 30 else if (j : Int) = 7 then some 32 else none) = _
  (repeat' split) <;> first | rfl | omega
theorem tb_R0_62 : (fun j : Nat => tb_R0 62 (j : Int)) = va_up (va_up (va_up (va_up (va_up (va_up (va_up (va_up (fun _ => none) 0 (some 64)) 1 (some 66)) 2 (some 68)) 3 (some 70)) 4 (some 72)) 5 (some 74)) 6 (some 76)) 7 (some 78) := by
  funext j
  unfold va_up
  show (if (j : Int) = 0 then some 64 else if (j : Int) = 1 then some 66 else if (j : Int) = 2 then some 68 else if (j : Int) = 3 then some 70 else if (j : Int) = 4 then some 72 else if (j : Int) = 5 then some 74 else if (j : Int) = 6 then some 76 else if (j : Int) = 7 then some 78 else none) = _
  (repeat' split) <;> first | rfl | omega
set_option maxRecDepth 100000 in
theorem tb_g0 : xm_g tb_K0 174 (fun _ => none, 0, tb_M0, tb_R0, 159584) = tb_G := by
  have e : ∀ M R, xm_g tb_K0 174 (fun _ => none, 0, M, R, 159584) = (List.range 174).map (fun q => match xm_kd tb_K0 q (fun _ => none) with
    | some kd => xm_e (M q) (R q) kd
    | none => .inr (0, [])) := fun _ _ => rfl
  unfold tb_G
  rw [← tb_R0_16]
  rw [← tb_R0_62]
  rfl
def xm_numb : List (Nat × Nat × Int) → Int → Bool
  | [], _ => true
  | f :: r, j => decide (f.2.2 = j) && xm_numb r (j + 1)
theorem xm_numb_ok : ∀ (fs : List (Nat × Nat × Int)) (j : Int), xm_numb fs j = true → ∀ (i : Nat) f, fs[i]? = some f → f.2.2 = j + (i : Int)
  | [], _, _, i, f, hf => by simp at hf
  | g :: r, j, h, 0, f, hf => by
    simp only [xm_numb, Bool.and_eq_true, decide_eq_true_eq] at h
    simp at hf
    rw [← hf, h.1]
    simp
  | g :: r, j, h, i + 1, f, hf => by
    simp only [xm_numb, Bool.and_eq_true] at h
    have := xm_numb_ok r (j + 1) h.2 i f (by simpa using hf)
    rw [this]
    omega
def xm_numk : xk → Bool
  | .inr (_, fs) => xm_numb fs 0
  | _ => true
set_option maxRecDepth 100000 in
theorem tb_num : tb_K0.all xm_numk = true := rfl
theorem tb_M0_in (q : Nat) (j : Int) : -1 ≤ tb_M0 q j ∧ tb_M0 q j ≤ 25 := by
  unfold tb_M0
  split <;> (try dsimp only) <;> (repeat' split) <;> decide
set_option maxRecDepth 100000 in
theorem tb_ok0 : xm_ok tb_K0 174 (fun _ => none, 0, tb_M0, tb_R0, 159584) := by
  refine ⟨rfl, fun e kd h => (by cases h), fun q kd h => ?_⟩
  have hm : kd ∈ tb_K0 := by
    by_cases hq : q < tb_K0.length
    · rw [xm_kd_lt hq] at h
      exact List.mem_of_getElem? h
    · have e : q = (q - tb_K0.length) + tb_K0.length := by omega
      rw [e, xm_kd_ge] at h
      cases h
  have hn := List.all_eq_true.mp tb_num kd hm
  have h32 : ∀ j, i32 (tb_M0 q j) := fun j => by have := tb_M0_in q j; exact ⟨by omega, by omega⟩
  have h64 : ∀ j, i64 (tb_M0 q j) := fun j => by have := tb_M0_in q j; exact ⟨by omega, by omega⟩
  rcases kd with ⟨t, n⟩ | ⟨ci, fs⟩
  · exact ⟨fun _ => h32, fun _ => h64⟩
  · intro i f hf
    have := xm_numb_ok fs 0 hn i f hf
    exact ⟨by omega, fun _ => h32 _, fun _ => h64 _⟩
theorem tb_CM : mm_CM tb_P = 601024 := rfl
theorem tb_SM : mm_SM tb_P = 7293034 := rfl
set_option maxRecDepth 100000 in
theorem tb_dyn {ρ : Nat → Option xk} {q : Nat} {kd : xk} (h : ρ q = some kd) : xm_kd tb_K0 (q + 174) ρ = some kd := (xm_kd_ge (K0 := tb_K0) (q := q) (r := ρ)).trans h

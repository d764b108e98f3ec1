/-! THE MACHINE, told once for both sides. S: 0 pile, 1 functions that are called, 2 their next instructions, 3 locals, 7 which of them have been given a value, 4 cells, 5 what was printed, 6 numbers (0 piled, 1 calls, 2 taken, 3 printed, 4 checks, 5 reached, 6 deepest, 7 made) -/
abbrev m_T : Type := Nat → Int → Int
def m_hb (r a b : Int) : Bool := decide ((r = 0 ∧ a < b) ∨ (r = 1 ∧ a ≤ b) ∨ (r = 2 ∧ a = b) ∨ (r = 3 ∧ b ≤ a) ∨ (r = 4 ∧ b < a))
def m_pu (S : m_T) (v : Int) : m_T := x_up (x_up S 0 (S 6 0) v) 6 0 (S 6 0 + 1)
def m_av (op a b : Int) : Int := if op = 4 then a + b else if op = 5 then a - b else a * b
def m_ar (op : Int) (S : m_T) : Option (Int × m_T) :=
  if -1000000000 ≤ m_av op (S 0 (S 6 0 - 2)) (S 0 (S 6 0 - 1)) ∧ m_av op (S 0 (S 6 0 - 2)) (S 0 (S 6 0 - 1)) ≤ 1000000000 then some (0, x_up (x_up S 0 (S 6 0 - 2) (m_av op (S 0 (S 6 0 - 2)) (S 0 (S 6 0 - 1)))) 6 0 (S 6 0 - 1)) else some (-12, S)
/-- a new row of v numbers -/
def m_nr (S : m_T) (v : Int) : m_T := x_up (x_up (x_fill (x_up S 4 (S 6 2) v) 4 (S 6 2 + 1) v 0) 0 (S 6 0 - 1) (S 6 2)) 6 2 (S 6 2 + 1 + v)
/-- an access at a: g is 1 where it changes -/
def m_a2 (g a : Int) (S : m_T) : m_T := x_up (x_up (if g = 1 then x_up (x_up S 6 5 (S 6 5 + 1)) 4 a (S 0 (S 6 0 - 1)) else x_up S 6 5 (S 6 5 + 1)) 0 (S 6 0 - 2 - g) (if g = 1 then S 0 (S 6 0 - 1) else S 4 a)) 6 0 (S 6 0 - 1 - g)
def m_a1 (ch : Bool) (g i row : Int) (S : m_T) : Option (Int × m_T) :=
  if ch = true then
    if 0 ≤ row ∧ row < S 6 2 then
      if 0 ≤ i ∧ i < S 4 row then
        if row + 1 + i < S 6 2 then some (0, m_a2 g (row + 1 + i) (x_up S 6 4 (S 6 4 + 1))) else none
      else some (-15, x_up S 6 4 (S 6 4 + 1))
    else none
  else if 0 ≤ row + 1 + i ∧ row + 1 + i < S 6 2 then some (0, m_a2 g (row + 1 + i) S) else none
def m_cl (S : m_T) (n k : Int) : m_T := x_up (x_up (x_up (x_up (x_up (x_fill (x_cpy S 0 3 (S 6 0 - k) (16 * S 6 1) k) 7 (16 * S 6 1) k 1) 1 (S 6 1) n) 2 (S 6 1) 0) 6 1 (S 6 1 + 1)) 6 0 (S 6 0 - k)) 6 6 (max (S 6 6) (S 6 1 + 1))
def m_op (pn : Int → Int) (op n : Int) (S : m_T) : Option (Int × m_T) :=
  if op = 0 then (if S 6 0 = 200 then some (-11, S) else some (0, m_pu S n))
  else if op = 1 then (if S 6 0 = 200 then some (-11, S) else if (0 ≤ n ∧ n < 10) ∧ S 7 (16 * (S 6 1 - 1) + n) = 1 then some (0, m_pu S (S 3 (16 * (S 6 1 - 1) + n))) else none)
  else if op = 2 then (if 0 < S 6 0 ∧ 0 ≤ n ∧ n < 10 then some (0, x_up (x_up (x_up S 6 0 (S 6 0 - 1)) 3 (16 * (S 6 1 - 1) + n) (S 0 (S 6 0 - 1))) 7 (16 * (S 6 1 - 1) + n) 1) else none)
  else if op = 3 then (if 0 < S 6 0 then some (0, x_up S 6 0 (S 6 0 - 1)) else none)
  else if op = 4 ∨ op = 5 ∨ op = 6 then (if 1 < S 6 0 then m_ar op S else none)
  else if op = 7 then (if 0 < S 6 0 ∧ 0 < n then some (0, x_up S 0 (S 6 0 - 1) (S 0 (S 6 0 - 1) / n)) else none)
  else if op = 8 then (if 0 < S 6 0 ∧ 0 ≤ S 0 (S 6 0 - 1) ∧ S 0 (S 6 0 - 1) < S 6 2 then some (0, x_up S 0 (S 6 0 - 1) (S 4 (S 0 (S 6 0 - 1)))) else none)
  else if op = 9 then (if 0 < S 6 0 ∧ 0 ≤ S 6 2 ∧ S 6 2 ≤ 600 then (if S 0 (S 6 0 - 1) < 0 then some (-13, S) else if 599 - S 6 2 < S 0 (S 6 0 - 1) then some (-14, S) else some (0, m_nr S (S 0 (S 6 0 - 1)))) else none)
  else if op = 10 ∨ op = 11 then (if 1 < S 6 0 then m_a1 (op == 10) 0 (S 0 (S 6 0 - 1)) (S 0 (S 6 0 - 2)) S else none)
  else if op = 12 ∨ op = 13 then (if 2 < S 6 0 then m_a1 (op == 12) 1 (S 0 (S 6 0 - 2)) (S 0 (S 6 0 - 3)) S else none)
  else if op = 14 then (if 0 < S 6 0 then some (0, x_up (if S 6 3 < 100 then x_up S 5 (S 6 3) (S 0 (S 6 0 - 1)) else S) 6 3 (S 6 3 + 1)) else none)
  else if op = 15 then (if S 6 1 = 60 then some (-11, S) else if 0 ≤ n ∧ n < 8 ∧ 0 ≤ pn n ∧ pn n ≤ 10 ∧ pn n ≤ S 6 0 then some (0, m_cl S n (pn n)) else none)
  else if op = 16 then some (0, x_up S 2 (S 6 1 - 1) n)
  else if op = 22 then some (if S 6 1 = 1 then 1 else 0, x_up S 6 1 (S 6 1 - 1))
  else if 17 ≤ op ∧ op ≤ 21 then (if 1 < S 6 0 then some (0, x_up (if m_hb (op - 17) (S 0 (S 6 0 - 2)) (S 0 (S 6 0 - 1)) = true then S else x_up S 2 (S 6 1 - 1) n) 6 0 (S 6 0 - 2)) else none)
  else none
/-- one is read -/
def m_nx (S : m_T) : m_T := x_up (x_up S 6 7 (S 6 7 + 1)) 2 (S 6 1 - 1) (S 2 (S 6 1 - 1) + 1)
/-- one step -/
def m_st (cd : Int → Int → Option (Int × Int)) (pn : Int → Int) (S : m_T) : Option (Int × m_T) :=
  if 1 ≤ S 6 1 ∧ S 6 1 ≤ 60 ∧ 0 ≤ S 6 0 ∧ S 6 0 ≤ 200 then (match cd (S 1 (S 6 1 - 1)) (S 2 (S 6 1 - 1)) with
    | none => none
    | some x => m_op pn x.1 x.2 (m_nx S)) else none
/-- it is never at a loss within n steps; Z holds where it ends -/
def m_G (cd : Int → Int → Option (Int × Int)) (pn : Int → Int) (Z : m_T → Prop) : Nat → m_T → Prop
  | 0, _ => True
  | n + 1, S => ∃ o, m_st cd pn S = some o ∧ (o.1 = 0 → m_G cd pn Z n o.2) ∧ (o.1 = 1 → Z o.2)
/-- how it ends within n steps -/
def m_E (cd : Int → Int → Option (Int × Int)) (pn : Int → Int) : Nat → m_T → Int × m_T
  | 0, S => (-10, S)
  | n + 1, S => match m_st cd pn S with
    | none => (0, S)
    | some o => if o.1 = 0 then m_E cd pn n o.2 else o
/-- codes with all checks (how 0), or with those that are left -/
def m_ad (how x : Int) : Int := if how = 1 then x else if x = 11 then 10 else if x = 13 then 12 else x
/-- the code l from the p-th instruction of f on -/
def m_C (cd : Int → Int → Option (Int × Int)) (how f : Int) : Int → List (Int × Int) → Prop
  | _, [] => True
  | p, x :: l => cd f p = some (m_ad how x.1, x.2) ∧ m_C cd how f (p + 1) l
theorem m_C_app {cd : Int → Int → Option (Int × Int)} {how f : Int} : ∀ {a b : List (Int × Int)} {p : Int}, m_C cd how f p (a ++ b) ↔ m_C cd how f p a ∧ m_C cd how f (p + a.length) b
  | [], b, p => by
    rw [List.nil_append, show p + ((([] : List (Int × Int)).length : Nat) : Int) = p by rw [List.length_nil]; omega]
    exact ⟨fun h => ⟨trivial, h⟩, fun h => h.2⟩
  | x :: a, b, p => by
    show (_ ∧ m_C cd how f (p + 1) (a ++ b)) ↔ (_ ∧ m_C cd how f (p + 1) a) ∧ _
    rw [m_C_app, show p + (((x :: a).length : Nat) : Int) = p + 1 + a.length by rw [List.length_cons]; omega]
    exact ⟨fun h => ⟨⟨h.1, h.2.1⟩, h.2.2⟩, fun h => ⟨h.1.1, h.1.2, h.2⟩⟩
theorem m_ad_o {how x : Int} (h : x ≠ 11) (h2 : x ≠ 13) : m_ad how x = x := by
  unfold m_ad
  rw [if_neg h, if_neg h2]
  split <;> rfl
/-- where it stands: c calls, in f at x, h values -/
def mV (S : m_T) (c f x h : Int) : Prop := (S 6 1 = c ∧ S 6 0 = h) ∧ (S 1 (c - 1) = f ∧ S 2 (c - 1) = x) ∧ (1 ≤ c ∧ c ≤ 60) ∧ 0 ≤ h ∧ h ≤ 200
/-- what stays: h values, calls before c, locals before l -/
def mQ (c h l : Int) (S S' : m_T) : Prop := (∀ j, j < h → S' 0 j = S 0 j) ∧ (∀ j, j < c → S' 1 j = S 1 j) ∧ (∀ j, j < c - 1 → S' 2 j = S 2 j) ∧ (∀ j, j < l → S' 3 j = S 3 j) ∧ ∀ j, S 7 j = 1 → S' 7 j = 1
theorem mQ_rf {c h l : Int} {S : m_T} : mQ c h l S S := ⟨fun _ _ => rfl, fun _ _ => rfl, fun _ _ => rfl, fun _ _ => rfl, fun _ q => q⟩
theorem mQ_tr {c c' h h' l l' : Int} {S S1 S2 : m_T} (h1 : mQ c h l S S1) (h2 : mQ c' h' l' S1 S2) (hc : c ≤ c') (hh : h ≤ h') (hl : l ≤ l') : mQ c h l S S2 := ⟨fun j q => (h2.1 j (by omega)).trans (h1.1 j q), fun j q => (h2.2.1 j (by omega)).trans (h1.2.1 j q), fun j q => (h2.2.2.1 j (by omega)).trans (h1.2.2.1 j q), fun j q => (h2.2.2.2.1 j (by omega)).trans (h1.2.2.2.1 j q), fun j q => h2.2.2.2.2 j (h1.2.2.2.2 j q)⟩
/-- rows in the cells: Hd where they begin -/
def hI (Hd : Int → Prop) (S : m_T) : Prop := (0 ≤ S 6 2 ∧ S 6 2 ≤ 600) ∧ (∀ a, Hd a → 0 ≤ a ∧ 0 ≤ S 4 a ∧ a + 1 + S 4 a ≤ S 6 2) ∧ ∀ a b, Hd a → Hd b → a < b → a + 1 + S 4 a ≤ b
/-- rows stay, and as long as they were -/
def hG (Hd : Int → Prop) (S : m_T) (Hd' : Int → Prop) (S' : m_T) : Prop := ∀ a, Hd a → Hd' a ∧ S' 4 a = S 4 a
theorem hG_rf {Hd : Int → Prop} {S S' : m_T} (h : S' 4 = S 4) : hG Hd S Hd S' := fun a ha => ⟨ha, by rw [h]⟩
theorem hG_tr {Hd Hd1 Hd2 : Int → Prop} {S S1 S2 : m_T} (h1 : hG Hd S Hd1 S1) (h2 : hG Hd1 S1 Hd2 S2) : hG Hd S Hd2 S2 := fun a ha => ⟨(h2 a (h1 a ha).1).1, (h2 a (h1 a ha).1).2.trans (h1 a ha).2⟩
theorem hI_q {Hd : Int → Prop} {S S' : m_T} (h : hI Hd S) (h4 : S' 4 = S 4) (h2 : S' 6 2 = S 6 2) : hI Hd S' := by
  unfold hI at h ⊢
  rw [h4, h2]
  exact h
section
variable {cd : Int → Int → Option (Int × Int)} {pn : Int → Int} {Z : m_T → Prop} {k : Nat} {S : m_T} {c f x h op n : Int}
theorem m_go (hv : mV S c f x h) (hc : cd f x = some (op, n)) {oe : Int} {U : m_T} (ho : m_op pn op n (m_nx S) = some (oe, U)) (h0 : oe = 0 → ∀ k', k' < k → m_G cd pn Z k' U) (h1 : oe = 1 → Z U) : m_G cd pn Z k S := by
  cases k with
  | zero => trivial
  | succ k =>
    refine ⟨(oe, U), ?_, fun e => h0 e k (by omega), h1⟩
    obtain ⟨⟨v1, v2⟩, ⟨v3, v4⟩, v5, v6⟩ := hv
    unfold m_st
    rw [v1, v2, if_pos (by omega), v3, v4, hc]
    exact ho
theorem m_nx_6 (hj : n ≠ 7) : m_nx S 6 n = S 6 n := by
  unfold m_nx
  rw [x_up_p (by decide), x_up_o hj]
theorem m_nx_o {q : Nat} (h6 : q ≠ 6) (h2 : q ≠ 2) : m_nx S q = S q := by
  unfold m_nx
  rw [x_up_ne h2, x_up_ne h6]
theorem m_nx_2 (hc : S 6 1 = c) {j : Int} : m_nx S 2 j = if j = c - 1 then S 2 (c - 1) + 1 else S 2 j := by
  unfold m_nx
  rw [hc]
  by_cases q : j = c - 1
  · rw [if_pos q, x_up_s q]
  · rw [if_neg q, x_up_o q, x_up_p (by decide)]
end

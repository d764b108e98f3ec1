/-! WORDS as numbers: a word's letters, the last one first, each 1 to 26, to a base above 26. -/
def w_rv (B : Nat) : List Nat → Nat
  | [] => 0
  | d :: l => w_rv B l * B + d
def w_ok (l : List Nat) : Prop := ∀ d ∈ l, 1 ≤ d ∧ d ≤ 26
theorem w_ok_tail {d : Nat} {l : List Nat} (h : w_ok (d :: l)) : w_ok l := fun x hx => h x (List.mem_cons_of_mem _ hx)
theorem w_inj {B : Nat} (hB : 26 < B) : ∀ {l t : List Nat}, w_ok l → w_ok t → w_rv B l = w_rv B t → l = t
  | [], [], _, _, _ => rfl
  | [], d :: t, _, ht, h => by
    have := ht d List.mem_cons_self
    have h : 0 = w_rv B t * B + d := h
    omega
  | d :: l, [], hl, _, h => by
    have := hl d List.mem_cons_self
    have h : w_rv B l * B + d = 0 := h
    omega
  | d :: l, e :: t, hl, ht, h => by
    have h1 := hl d List.mem_cons_self
    have h2 := ht e List.mem_cons_self
    have h : w_rv B l * B + d = w_rv B t * B + e := h
    have hm : d = e := by
      have q1 : (w_rv B l * B + d) % B = d := by rw [Nat.add_comm, Nat.add_mul_mod_self_right, Nat.mod_eq_of_lt (by omega)]
      have q2 : (w_rv B t * B + e) % B = e := by rw [Nat.add_comm, Nat.add_mul_mod_self_right, Nat.mod_eq_of_lt (by omega)]
      rw [h] at q1
      omega
    subst hm
    have hv : w_rv B l = w_rv B t := by
      have q : w_rv B l * B = w_rv B t * B := by omega
      exact Nat.eq_of_mul_eq_mul_right (by omega) q
    rw [w_inj hB (w_ok_tail hl) (w_ok_tail ht) hv]
/-- two bases tell the same words apart -/
theorem w_same {B C : Nat} (hB : 26 < B) (hC : 26 < C) {l t : List Nat} (hl : w_ok l) (ht : w_ok t) : w_rv B l = w_rv B t ↔ w_rv C l = w_rv C t :=
  ⟨fun h => by rw [w_inj hB hl ht h], fun h => by rw [w_inj hC hl ht h]⟩
theorem w_lt {B : Nat} (hB : 26 < B) : ∀ {l : List Nat}, w_ok l → w_rv B l < B ^ l.length
  | [], _ => by simp [w_rv]
  | d :: l, h => by
    have h1 := h d List.mem_cons_self
    have h2 := w_lt hB (w_ok_tail h)
    have h3 : w_rv B l * B + B ≤ B ^ l.length * B := by
      have := Nat.mul_le_mul_right B (Nat.succ_le_of_lt h2)
      rw [Nat.succ_mul] at this
      exact this
    show w_rv B l * B + d < B ^ (l.length + 1)
    rw [Nat.pow_succ]
    omega
theorem w_pos {B : Nat} {d : Nat} {l : List Nat} (h : w_ok (d :: l)) : 0 < w_rv B (d :: l) := by
  have := h d List.mem_cons_self
  show 0 < w_rv B l * B + d
  omega

/-! A RUN BEGINS: the machines' first states -/
/-- which cell is whose -/
theorem bP_cov {A B : Int → Int} (h : sAB A B) : ∀ (j : Nat) (c : Int), j ≤ 6 → 0 ≤ c → c < bP A B j → ∃ i : Nat, i < j ∧ A i = 1 ∧ (c = bP A B i ∨ ∃ k, 0 ≤ k ∧ k < B i ∧ c = bP A B i + 1 + k)
  | 0, c, _, c0, c1 => by unfold bP at c1; omega
  | j + 1, c, hj, c0, c1 => by
    by_cases q : c < bP A B j
    · obtain ⟨i, i1, i2⟩ := bP_cov h j c (by omega) c0 q
      exact ⟨i, by omega, i2⟩
    · have c1 : c < bP A B j + (if A j = 1 then 1 + B j else 0) := c1
      by_cases r : A j = 1
      · rw [if_pos r] at c1
        refine ⟨j, by omega, r, ?_⟩
        by_cases z : c = bP A B j
        · exact .inl z
        · exact .inr ⟨c - bP A B j - 1, by omega, by omega, by omega⟩
      · rw [if_neg r] at c1
        omega
theorem bP_c {A B A' B' : Int → Int} (h : ∀ i, 0 ≤ i → i < 6 → A i = A' i ∧ B i = B' i) : ∀ j : Nat, j ≤ 6 → bP A B j = bP A' B' j
  | 0, _ => rfl
  | j + 1, hj => by
    obtain ⟨h1, h2⟩ := h j (by omega) (by omega)
    show bP A B j + (if A j = 1 then 1 + B j else 0) = bP A' B' j + (if A' j = 1 then 1 + B' j else 0)
    rw [bP_c h j (by omega), h1, h2]
theorem bg_c {A B A' B' C ce lo : Int → Int} {j : Nat} (h : ∀ i, 0 ≤ i → i < 6 → A i = A' i ∧ B i = B' i) (hj : j ≤ 6) (hb : bg A B C ce lo j) : bg A' B' C ce lo j := by
  intro i hi
  obtain ⟨h1, h2⟩ := h i (by omega) (by omega)
  have e := bP_c h i (by omega)
  have := hb i hi
  rw [h1, h2, e] at this
  exact this
theorem bg_eq {A B C C' ce lo ce' lo' : Int → Int} {j : Nat} (h : sAB A B) (hj : j ≤ 6) (h1 : bg A B C ce lo j) (h2 : bg A B C' ce' lo' j) (hC : ∀ i : Nat, i < 6 → A i = 1 → ∀ k, 0 ≤ k → k < B i → C' (40 * i + k) = C (40 * i + k)) : (∀ c, 0 ≤ c → c < bP A B j → ce' c = ce c) ∧ ∀ i : Nat, i < j → lo' i = lo i := by
  refine ⟨fun c c0 c1 => ?_, fun i hi => by rw [(h1 i hi).1, (h2 i hi).1]⟩
  obtain ⟨i, i1, i2, i3⟩ := bP_cov h j c hj c0 c1
  have g1 := (h1 i i1).2 i2
  have g2 := (h2 i i1).2 i2
  rcases i3 with rfl | ⟨k, k0, k1, rfl⟩
  · rw [g1.1, g2.1]
  · rw [g1.2 k k0 k1, g2.2 k k0 k1, hC i (by omega) i2 k k0 k1]
theorem bg_num {A B C ce lo : Int → Int} {j : Nat} (h : sAB A B) (hj : j ≤ 6) (h1 : bg A B C ce lo j) (hC : ∀ i : Nat, i < 6 → A i = 1 → ∀ k, 0 ≤ k → k < B i → i_num (C (40 * i + k))) : (∀ c, 0 ≤ c → c < bP A B j → i_num (ce c)) ∧ ∀ i : Nat, i < j → i_num (lo i) := by
  refine ⟨fun c c0 c1 => ?_, fun i hi => ?_⟩
  · obtain ⟨i, i1, i2, i3⟩ := bP_cov h j c hj c0 c1
    have g1 := (h1 i i1).2 i2
    rcases i3 with rfl | ⟨k, k0, k1, rfl⟩
    · rw [g1.1]; exact (h i (by omega) (by omega)).2.1
    · rw [g1.2 k k0 k1]; exact hC i (by omega) i2 k k0 k1
  · rw [(h1 i hi).1]
    split
    · have := bP_in h i (by omega)
      unfold i_num
      omega
    · exact (h i (by omega) (by omega)).2.1
/-- a first state -/
def sT (p fn nx lo ce pr : Int → Int) (tk n : Int) : m_T := fun t j => match t with
  | 0 => p j
  | 1 => fn j
  | 2 => nx j
  | 3 => lo j
  | 4 => ce j
  | 5 => pr j
  | 6 => if j = 1 then 1 else if j = 2 then tk else if j = 6 then 1 else 0
  | _ => if 0 ≤ j ∧ j < n then 1 else 0
section
variable {p fn nx lo ce pr p' fn' nx' lo' ce' pr' : Int → Int} {tk n f : Int}
theorem sT_6 : sT p fn nx lo ce pr tk n 6 0 = 0 ∧ sT p fn nx lo ce pr tk n 6 1 = 1 ∧ sT p fn nx lo ce pr tk n 6 2 = tk ∧ sT p fn nx lo ce pr tk n 6 3 = 0 ∧ sT p fn nx lo ce pr tk n 6 4 = 0 ∧ sT p fn nx lo ce pr tk n 6 5 = 0 ∧ sT p fn nx lo ce pr tk n 6 6 = 1 ∧ sT p fn nx lo ce pr tk n 6 7 = 0 := ⟨rfl, rfl, rfl, rfl, rfl, rfl, rfl, rfl⟩
theorem sT_7 {j : Int} : sT p fn nx lo ce pr tk n 7 j = 1 ↔ 0 ≤ j ∧ j < n := by
  show (if 0 ≤ j ∧ j < n then (1 : Int) else 0) = 1 ↔ _
  by_cases h : 0 ≤ j ∧ j < n
  · rw [if_pos h]; exact ⟨fun _ => h, fun _ => rfl⟩
  · rw [if_neg h]; exact ⟨fun z => by omega, fun z => absurd z h⟩
theorem sT_bS (h1 : fn' 0 = fn 0) (h2 : nx' 0 = nx 0) (h3 : ∀ j, 0 ≤ j → j < n → lo' j = lo j) (h4 : ∀ j, 0 ≤ j → j < tk → ce' j = ce j) : bS (sT p fn nx lo ce pr tk n) (sT p' fn' nx' lo' ce' pr' tk n) := by
  obtain ⟨a0, a1, a2, a3, -⟩ := sT_6 (p := p) (fn := fn) (nx := nx) (lo := lo) (ce := ce) (pr := pr) (tk := tk) (n := n)
  refine ⟨rfl, fun j j0 j1 => ?_, fun j j0 j1 => ?_, fun j hj => ?_, fun j j0 j1 => ?_, fun j j0 j1 _ => ?_⟩
  · omega
  · have : j = 0 := by omega
    subst this
    exact ⟨h1, h2⟩
  · have := sT_7.mp hj
    exact ⟨sT_7.mpr this, h3 j this.1 this.2⟩
  · exact h4 j j0 (by omega)
  · omega
theorem sT_mB (h3 : ∀ j, 0 ≤ j → j < n → i_num (lo j)) (h4 : ∀ j, 0 ≤ j → j < tk → i_num (ce j)) (ht : 0 ≤ tk ∧ tk ≤ 600) (hn : n ≤ 960) : m_B (sT p fn nx lo ce pr tk n) := by
  obtain ⟨a0, a1, a2, a3, a4, a5, a6, a7⟩ := sT_6 (p := p) (fn := fn) (nx := nx) (lo := lo) (ce := ce) (pr := pr) (tk := tk) (n := n)
  refine ⟨fun j j0 j1 => by omega, fun j hj => ?_, fun j j0 j1 => h4 j j0 (by omega), by omega, by omega, by omega, by omega, by omega, by omega⟩
  have := sT_7.mp hj
  exact ⟨by omega, h3 j this.1 this.2⟩
theorem sT_mV (h1 : fn 0 = f) (h2 : nx 0 = 0) : mV (sT p fn nx lo ce pr tk n) 1 f 0 0 := ⟨⟨rfl, rfl⟩, ⟨h1, h2⟩, by omega, by omega, by omega⟩
/-- where rows of slots begin -/
def hBg (A B : Int → Int) (j : Nat) (a : Int) : Prop := ∃ i : Nat, i < j ∧ A i = 1 ∧ a = bP A B i
theorem sT_hI {A B C : Int → Int} {j : Nat} (h : sAB A B) (hj : j ≤ 6) (hb : bg A B C ce lo j) (ht : tk = bP A B j) : hI (hBg A B j) (sT p fn nx lo ce pr tk n) := by
  have key : ∀ i : Nat, i < j → A i = 1 → 0 ≤ bP A B i ∧ (0 ≤ B i ∧ B i ≤ 40) ∧ bP A B (i + 1) = bP A B i + (1 + B i) ∧ ce (bP A B i) = B i := fun i hi r => by
    refine ⟨(bP_in h i (by omega)).1, (h i (by omega) (by omega)).2.2 r, ?_, ((hb i hi).2 r).1⟩
    show bP A B i + (if A i = 1 then 1 + B i else 0) = _
    rw [if_pos r]
  have pin := bP_in h j hj
  refine ⟨?_, fun a ⟨i, i1, i2, i3⟩ => ?_, fun a b ⟨i, i1, i2, i3⟩ ⟨k, k1, k2, k3⟩ hab => ?_⟩
  · show 0 ≤ tk ∧ tk ≤ 600
    omega
  · subst i3
    obtain ⟨q1, q2, q3, q4⟩ := key i i1 i2
    have le := bP_le h (i + 1) j (by omega) hj
    show 0 ≤ bP A B i ∧ 0 ≤ ce (bP A B i) ∧ bP A B i + 1 + ce (bP A B i) ≤ tk
    rw [q4]
    omega
  · subst i3 k3
    obtain ⟨q1, q2, q3, q4⟩ := key i i1 i2
    show bP A B i + 1 + ce (bP A B i) ≤ bP A B k
    rw [q4]
    by_cases z : i < k
    · have le := bP_le h (i + 1) k (by omega) (by omega)
      omega
    · have le := bP_le h k i (by omega) (by omega)
      omega
end

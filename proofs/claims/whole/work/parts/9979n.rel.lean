/-! A NODE OF THE REFERENCE AND ONE OF THE CLASS that are the same. D: the nodes of the class's tree below this one. -/
abbrev e_S : Type := (Int → Prop) → Int → Int → Prop
/-- below D stands f -/
def e_x (D : Int → Prop) (f : Int) : Int → Prop := fun x => D x ∧ x ≠ f
/-- a part of r: f in the class, a in the reference -/
def e_c (S : e_S) (D : Int → Prop) (r a f : Int) : Prop := (D f ∧ 1 ≤ f) ∧ S (e_x D f) a f ∧ 0 ≤ a ∧ a < r
/-- what a call is given -/
def e_a (M : Nat → Int → Int) (T : Int → Int) (S : e_S) (D : Int → Prop) (r : Int) : Nat → Int → Int → Prop
  | 0, _, f => f = 0
  | n + 1, b, f => e_c S D r (M 118 b) f ∧ e_a M T S D r n (b + 1) (t_nx T f)
/-- the indexes of a call -/
def e_i (M : Nat → Int → Int) (T : Int → Int) (lo hi : Int) : Nat → Int → Int → Prop
  | 0, _, f => f = 0
  | n + 1, x, f => (lo ≤ f ∧ f < hi) ∧ (∃ t l, ixQ M x t.2.2.2.2 (t :: l) ∧ ixC T lo hi (T (f * 9 + 5)) (t :: l) ∧ T (f * 9 + 1) = t.2.2.2.2 ∧ ∀ u ∈ t :: l, z_tk u) ∧ e_i M T lo hi n (x + 1) (t_nx T f)
/-- a chain: operands one behind the other in the class, nested to the left in the reference; k: 11 sum, 12 product, 13 steps -/
def e_h (M : Nat → Int → Int) (T : Int → Int) (S : e_S) (D : Int → Prop) (k : Int) : List (Int × Int) → Int → Int → Int → Prop
  | [], acc, f, r => acc = r ∧ t_nx T f = 0
  | (r1, f1) :: l, acc, f, r => (t_nx T f = f1 ∧ 1 ≤ f1 ∧ D f1) ∧ (M 97 r1 = acc ∧ 0 ≤ acc ∧ acc < r1 ∧ r1 < M 81 21 ∧ M 102 r1 = M 102 acc) ∧ ((k = 11 ∧ ((T (f1 * 9 + 8) = 43 ∧ M 96 r1 = 8) ∨ (T (f1 * 9 + 8) = 45 ∧ M 96 r1 = 9)) ∧ e_c S D r1 (M 98 r1) f1) ∨ (k = 12 ∧ T (f1 * 9 + 8) = 42 ∧ M 96 r1 = 10 ∧ e_c S D r1 (M 98 r1) f1) ∨ (k = 12 ∧ (T (f1 * 9 + 8) = 47 ∧ T (f1 * 9 + 0) = 1) ∧ M 96 r1 = 11 ∧ M 98 r1 = T (f1 * 9 + 4) ∧ 1 ≤ M 98 r1 ∧ M 98 r1 ≤ 999) ∨ (k = 13 ∧ M 96 r1 = 12 ∧ e_c S D r1 (M 98 r1) f1)) ∧ e_h M T S D k l r1 f1 r
/-- one step down -/
def e_s (M : Nat → Int → Int) (T : Int → Int) (S : e_S) (D : Int → Prop) (r v : Int) : Prop :=
  (0 ≤ r ∧ r < M 81 21 ∧ 700 * M 81 10 ≤ r) ∧ M 102 r = T (v * 9 + 1) ∧ (
    (M 96 r = 0 ∧ T (v * 9 + 0) = 1 ∧ M 97 r = T (v * 9 + 4) ∧ 0 ≤ M 97 r ∧ M 97 r ≤ 999)
    ∨ (M 96 r = 1 ∧ T (v * 9 + 0) = 2 ∧ w_w (T (v * 9 + 3)) (M 97 r) ∧ T (v * 9 + 2) = T (v * 9 + 1))
    ∨ (M 96 r = 2 ∧ T (v * 9 + 0) = 3 ∧ w_w (T (v * 9 + 3)) (M 97 r) ∧ T (v * 9 + 2) = T (v * 9 + 1) ∧ e_c S D r (M 98 r) (T (v * 9 + 5)))
    ∨ (M 96 r = 3 ∧ T (v * 9 + 0) = 4 ∧ w_w (T (v * 9 + 3)) (M 97 r) ∧ T (v * 9 + 2) = T (v * 9 + 1) ∧ e_c S D r (M 98 r) (T (v * 9 + 5)) ∧ e_c S D r (M 99 r) (t_nx T (T (v * 9 + 5))))
    ∨ (M 96 r = 4 ∧ T (v * 9 + 0) = 5 ∧ w_w (T (v * 9 + 3)) (M 97 r) ∧ (∃ lo hi, (∀ x, lo ≤ x → x < hi → D x) ∧ e_i M T lo hi (M 101 r).toNat (M 100 r) (T (v * 9 + 6))) ∧ (0 ≤ M 101 r ∧ M 101 r ≤ 4) ∧ (0 ≤ M 99 r ∧ M 99 r ≤ 5) ∧ (0 ≤ M 98 r ∧ M 98 r + M 99 r ≤ M 81 48) ∧ e_a M T S D r (M 99 r).toNat (M 98 r) (T (v * 9 + 5)))
    ∨ (M 96 r = 5 ∧ T (v * 9 + 0) = 6 ∧ w_w (T (v * 9 + 3)) (M 97 r) ∧ M 98 r = T (v * 9 + 2))
    ∨ (M 96 r = 6 ∧ T (v * 9 + 0) = 7 ∧ e_c S D r (M 97 r) (T (v * 9 + 5)))
    ∨ (M 96 r = 7 ∧ T (v * 9 + 0) = 8 ∧ e_c S D r (M 97 r) (T (v * 9 + 5)))
    ∨ (∃ k r0 l, T (v * 9 + 0) = k ∧ l ≠ [] ∧ e_c S D r r0 (T (v * 9 + 5)) ∧ e_h M T S D k l r0 (T (v * 9 + 5)) r)
    ∨ (M 96 r = 13 ∧ T (v * 9 + 0) = 14 ∧ w_w (T (v * 9 + 3)) (M 97 r) ∧ M 100 r = T (v * 9 + 2) ∧ e_c S D r (M 98 r) (T (v * 9 + 5)) ∧ e_c S D r (M 99 r) (t_nx T (T (v * 9 + 5))))
    ∨ (M 96 r = 14 ∧ T (v * 9 + 0) = 15 ∧ M 97 r = T (v * 9 + 4) ∧ (0 ≤ M 97 r ∧ M 97 r ≤ 4) ∧ e_c S D r (M 98 r) (T (v * 9 + 5)) ∧ e_c S D r (M 99 r) (t_nx T (T (v * 9 + 5))) ∧ e_c S D r (M 100 r) (t_nx T (t_nx T (T (v * 9 + 5)))) ∧ e_c S D r (M 101 r) (t_nx T (t_nx T (t_nx T (T (v * 9 + 5))))))
    ∨ (M 96 r = 15 ∧ T (v * 9 + 0) = 9 ∧ e_c S D r (M 97 r) (T (v * 9 + 5)))
    ∨ (M 96 r = 16 ∧ T (v * 9 + 0) = 10 ∧ e_c S D r (M 97 r) (T (v * 9 + 5)) ∧ ∃ lo hi x, (∀ y, lo ≤ y → y < hi → D y) ∧ tyQ M (M 98 r) x ∧ tyC T lo hi (T (v * 9 + 6)) x ∧ z_Tk x))
/-- the same -/
def e_n (M : Nat → Int → Int) (T : Int → Int) (D : Int → Prop) (r v : Int) : Prop := ∃ S : e_S, S D r v ∧ ∀ D r v, S D r v → e_s M T S D r v
section
variable {M M' : Nat → Int → Int} {T T' : Int → Int}
/-- the step in another place: S may be another, T and M may have changed where it doesn't matter -/
def e_T (T T' : Int → Int) (D : Int → Prop) : Prop := ∀ x, D x → ∀ i, 0 ≤ i → i < 9 → T' (x * 9 + i) = T (x * 9 + i)
def e_V (T T' : Int → Int) (v : Int) : Prop := ∀ i, 0 ≤ i → i < 7 → T' (v * 9 + i) = T (v * 9 + i)
def qN (M M' : Nat → Int → Int) : Prop := (M 81 21 ≤ M' 81 21 ∧ ∀ x i, 96 ≤ x → x ≤ 102 → 0 ≤ i → i < M 81 21 → M' x i = M x i) ∧ (M 81 48 ≤ M' 81 48 ∧ ∀ i, i < M 81 48 → M' 118 i = M 118 i) ∧ (∀ x a L, ixQ M x a L → ixQ M' x a L) ∧ (∀ t x, tyQ M t x → tyQ M' t x) ∧ M' 81 10 = M 81 10
theorem e_T_x {D : Int → Prop} {f : Int} (h : e_T T T' D) : e_T T T' (e_x D f) := fun x hx => h x hx.1
theorem e_T_v {D : Int → Prop} {f : Int} (h : e_T T T' D) (hf : D f) : e_V T T' f := fun i a b => h f hf i a (by omega)
theorem e_T_n {D : Int → Prop} {f : Int} (h : e_T T T' D) (hf : D f) : t_nx T' f = t_nx T f := t_nx_fr (h f hf 7 (by omega) (by omega))
theorem e_c_t {S S' : e_S} {D : Int → Prop} {r a f : Int} (hT : e_T T T' D) (hS : ∀ D a f, S D a f → e_T T T' D → e_V T T' f → S' D a f) (h : e_c S D r a f) : e_c S' D r a f := ⟨h.1, hS _ _ _ h.2.1 (e_T_x hT) (e_T_v hT h.1.1), h.2.2⟩
theorem e_a_t {S S' : e_S} {D : Int → Prop} {r : Int} (hq : qN M M') (hT : e_T T T' D) (hS : ∀ D a f, S D a f → e_T T T' D → e_V T T' f → S' D a f) : ∀ {n : Nat} {b f : Int}, b + n ≤ M 81 48 → e_a M T S D r n b f → e_a M' T' S' D r n b f
  | 0, _, _, _, h => h
  | n + 1, b, f, hb, ⟨h1, h2⟩ => by
    refine ⟨?_, ?_⟩
    · rw [hq.2.1.2 b (by omega)]; exact e_c_t hT hS h1
    · rw [e_T_n hT h1.1.1]; exact e_a_t hq hT hS (by omega) h2
theorem e_i_t {D : Int → Prop} {lo hi : Int} (hq : qN M M') (hT : e_T T T' D) (hD : ∀ x, lo ≤ x → x < hi → D x) : ∀ {n : Nat} {x f : Int}, e_i M T lo hi n x f → e_i M' T' lo hi n x f
  | 0, _, _, h => h
  | n + 1, x, f, ⟨h1, ⟨t, l, h2, h3, h5, h6⟩, h4⟩ => by
    have hf := hD f h1.1 h1.2
    have ag : ∀ j, lo * 9 ≤ j → j < hi * 9 → T' j = T j := fun j j1 j2 => by
      have := hT (j / 9) (hD (j / 9) (by omega) (by omega)) (j % 9) (by omega) (by omega)
      rw [show j / 9 * 9 + j % 9 = j by omega] at this
      exact this
    refine ⟨h1, ⟨t, l, hq.2.2.1 _ _ _ h2, ?_, by rw [hT f hf 1 (by omega) (by omega)]; exact h5, h6⟩, ?_⟩
    · rw [hT f hf 5 (by omega) (by omega)]; exact ixC_fr ag (Int.le_refl _) (Int.le_refl _) h3
    · rw [e_T_n hT hf]; exact e_i_t hq hT hD h4
theorem e_h_t {S S' : e_S} {D : Int → Prop} {k : Int} (hq : qN M M') (hT : e_T T T' D) (hS : ∀ D a f, S D a f → e_T T T' D → e_V T T' f → S' D a f) : ∀ {l : List (Int × Int)} {acc f r : Int}, D f → 0 ≤ acc → acc < M 81 21 → e_h M T S D k l acc f r → e_h M' T' S' D k l acc f r
  | [], _, f, _, hf, _, _, ⟨h1, h2⟩ => ⟨h1, by rw [e_T_n hT hf]; exact h2⟩
  | (r1, f1) :: l, acc, f, r, hf, ha, ha2, ⟨⟨h1, h1a, h1b⟩, ⟨h2, h3, h4, h5, h6⟩, h7, h8⟩ => by
    have n97 := hq.1.2 97 r1 (by omega) (by omega) (by omega) h5
    have n98 := hq.1.2 98 r1 (by omega) (by omega) (by omega) h5
    have n96 := hq.1.2 96 r1 (by omega) (by omega) (by omega) h5
    have n102 := hq.1.2 102 r1 (by omega) (by omega) (by omega) h5
    have m102 := hq.1.2 102 acc (by omega) (by omega) ha ha2
    have t8 := hT f1 h1b 8 (by omega) (by omega)
    have t4 := hT f1 h1b 4 (by omega) (by omega)
    have t0 := hT f1 h1b 0 (by omega) (by omega)
    have hg := hq.1.1
    refine ⟨⟨by rw [e_T_n hT hf]; exact h1, h1a, h1b⟩, ⟨by omega, h3, h4, by omega, by omega⟩, ?_, e_h_t hq hT hS h1b (by omega) h5 h8⟩
    rw [n96, n98, t8, t4, t0]
    rcases h7 with ⟨a, b, c⟩ | ⟨a, b, c, f⟩ | ⟨a, b, c, f⟩ | ⟨a, b, c⟩
    · exact .inl ⟨a, b, e_c_t hT hS c⟩
    · exact .inr (.inl ⟨a, b, c, e_c_t hT hS f⟩)
    · exact .inr (.inr (.inl ⟨a, b, c, f⟩))
    · exact .inr (.inr (.inr ⟨a, b, e_c_t hT hS c⟩))
end

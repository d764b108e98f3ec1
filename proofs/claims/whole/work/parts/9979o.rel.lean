/-! NODES THAT ARE THE SAME: what may change; folding and unfolding -/
section
variable {M M' : Nat → Int → Int} {T T' : Int → Int}
theorem e_s_t {S S' : e_S} {D : Int → Prop} {r v : Int} (hq : qN M M') (hT : e_T T T' D) (hv : e_V T T' v) (hS : ∀ D a f, S D a f → e_T T T' D → e_V T T' f → S' D a f) (h : e_s M T S D r v) : e_s M' T' S' D r v := by
  obtain ⟨h1, h2, h⟩ := h
  have hg := hq.1.1
  have hg10 := hq.2.2.2.2
  have n : ∀ x, 96 ≤ x → x ≤ 102 → M' x r = M x r := fun x a b => hq.1.2 x r a b h1.1 h1.2.1
  have n96 := n 96 (by omega) (by omega)
  have n97 := n 97 (by omega) (by omega)
  have n98 := n 98 (by omega) (by omega)
  have n99 := n 99 (by omega) (by omega)
  have n100 := n 100 (by omega) (by omega)
  have n101 := n 101 (by omega) (by omega)
  have n102 := n 102 (by omega) (by omega)
  have t0 := hv 0 (by omega) (by omega)
  have t1 := hv 1 (by omega) (by omega)
  have t2 := hv 2 (by omega) (by omega)
  have t3 := hv 3 (by omega) (by omega)
  have t4 := hv 4 (by omega) (by omega)
  have t5 := hv 5 (by omega) (by omega)
  have t6 := hv 6 (by omega) (by omega)
  refine ⟨by omega, by rw [n102, t1]; exact h2, ?_⟩
  rw [n96, n97, n98, n99, n100, n101, t0, t1, t2, t3, t4, t5, t6]
  have ec : ∀ {a f : Int}, e_c S D r a f → e_c S' D r a f := fun h => e_c_t hT hS h
  rcases h with h | h | ⟨a, b, c, f, g⟩ | ⟨a, b, c, f, g, i⟩ | ⟨a, b, c, ⟨lo, hi, f1, f2⟩, g, i, j, k⟩ | h | ⟨a, b, c⟩ | ⟨a, b, c⟩ | ⟨k, r0, l, a, b, c, f⟩ | ⟨a, b, c, f, g, i⟩ | ⟨a, b, c, f, g, i, j, k⟩ | ⟨a, b, c⟩ | ⟨a, b, c, lo, hi, x, f1, f2, f3, f4⟩
  · exact .inl h
  · exact .inr (.inl h)
  · exact .inr (.inr (.inl ⟨a, b, c, f, ec g⟩))
  · refine .inr (.inr (.inr (.inl ⟨a, b, c, f, ec g, ?_⟩)))
    rw [e_T_n hT g.1.1]
    exact ec i
  · refine .inr (.inr (.inr (.inr (.inl ⟨a, b, c, ⟨lo, hi, f1, e_i_t hq hT f1 f2⟩, g, i, ⟨j.1, ?_⟩, e_a_t hq hT hS (by omega) k⟩))))
    have := hq.2.1.1
    omega
  · exact .inr (.inr (.inr (.inr (.inr (.inl h)))))
  · exact .inr (.inr (.inr (.inr (.inr (.inr (.inl ⟨a, b, ec c⟩))))))
  · exact .inr (.inr (.inr (.inr (.inr (.inr (.inr (.inl ⟨a, b, ec c⟩)))))))
  · exact .inr (.inr (.inr (.inr (.inr (.inr (.inr (.inr (.inl ⟨k, r0, l, a, b, ec c, e_h_t hq hT hS c.1.1 c.2.2.1 (by have := c.2.2.2; omega) f⟩))))))))
  · refine .inr (.inr (.inr (.inr (.inr (.inr (.inr (.inr (.inr (.inl ⟨a, b, c, f, ec g, ?_⟩)))))))))
    rw [e_T_n hT g.1.1]
    exact ec i
  · refine .inr (.inr (.inr (.inr (.inr (.inr (.inr (.inr (.inr (.inr (.inl ⟨a, b, c, f, ec g, ?_, ?_, ?_⟩))))))))))
    · rw [e_T_n hT g.1.1]
      exact ec i
    · rw [e_T_n hT g.1.1, e_T_n hT i.1.1]
      exact ec j
    · rw [e_T_n hT g.1.1, e_T_n hT i.1.1, e_T_n hT j.1.1]
      exact ec k
  · exact .inr (.inr (.inr (.inr (.inr (.inr (.inr (.inr (.inr (.inr (.inr (.inl ⟨a, b, ec c⟩)))))))))))
  · refine .inr (.inr (.inr (.inr (.inr (.inr (.inr (.inr (.inr (.inr (.inr (.inr ⟨a, b, ec c, lo, hi, x, f1, hq.2.2.2.1 _ _ f2, tyC_fr (fun y y1 y2 => ?_) (Int.le_refl _) (Int.le_refl _) f3, f4⟩)))))))))))
    have := hT (y / 9) (f1 (y / 9) (by omega) (by omega)) (y % 9) (by omega) (by omega)
    rw [show y / 9 * 9 + y % 9 = y by omega] at this
    exact this
theorem qN_rf (M : Nat → Int → Int) : qN M M := ⟨⟨Int.le_refl _, fun _ _ _ _ _ _ => rfl⟩, ⟨Int.le_refl _, fun _ _ => rfl⟩, fun _ _ _ h => h, fun _ _ h => h, rfl⟩
theorem qN_tr {M M1 M2 : Nat → Int → Int} (h1 : qN M M1) (h2 : qN M1 M2) : qN M M2 := by
  obtain ⟨⟨a1, b1⟩, ⟨c1, d1⟩, e1, f1, g1⟩ := h1
  obtain ⟨⟨a2, b2⟩, ⟨c2, d2⟩, e2, f2, g2⟩ := h2
  exact ⟨⟨by omega, fun x i p q r s => (b2 x i p q r (by omega)).trans (b1 x i p q r s)⟩, ⟨by omega, fun i p => (d2 i (by omega)).trans (d1 i p)⟩, fun x a L h => e2 x a L (e1 x a L h), fun t x h => f2 t x (f1 t x h), g2.trans g1⟩
/-- the tree or the tables grow -/
theorem e_n_t {D : Int → Prop} {r v : Int} (hq : qN M M') (hT : e_T T T' D) (hv : e_V T T' v) (h : e_n M T D r v) : e_n M' T' D r v := by
  obtain ⟨S, h1, h2⟩ := h
  refine ⟨fun D a f => S D a f ∧ e_T T T' D ∧ e_V T T' f, ⟨h1, hT, hv⟩, fun D a f ⟨q1, q2, q3⟩ => ?_⟩
  exact e_s_t hq q2 q3 (fun D a f x y z => ⟨x, y, z⟩) (h2 D a f q1)
/-- another S -/
theorem e_s_m {S S' : e_S} {D : Int → Prop} {r v : Int} (hS : ∀ D a f, S D a f → S' D a f) (h : e_s M T S D r v) : e_s M T S' D r v := e_s_t (qN_rf M) (fun _ _ _ _ _ => rfl) (fun _ _ _ => rfl) (fun D a f x _ _ => hS D a f x) h
theorem e_n_un {D : Int → Prop} {r v : Int} (h : e_n M T D r v) : e_s M T (e_n M T) D r v := by
  obtain ⟨S, h1, h2⟩ := h
  exact e_s_m (fun D a f q => ⟨S, q, h2⟩) (h2 D r v h1)
theorem e_n_fo {D : Int → Prop} {r v : Int} (h : e_s M T (e_n M T) D r v) : e_n M T D r v := by
  refine ⟨fun D' a f => e_n M T D' a f ∨ (D' = D ∧ a = r ∧ f = v), .inr ⟨rfl, rfl, rfl⟩, fun D' a f q => ?_⟩
  rcases q with q | ⟨rfl, rfl, rfl⟩
  · exact e_s_m (fun _ _ _ x => .inl x) (e_n_un q)
  · exact e_s_m (fun _ _ _ x => .inl x) h
/-- more nodes may be below -/
theorem e_s_d {S S' : e_S} {D E : Int → Prop} {r v : Int} (hD : ∀ x, D x → E x) (hS : ∀ D E a f, S D a f → (∀ x, D x → E x) → S' E a f) (h : e_s M T S D r v) : e_s M T S' E r v := by
  have ec : ∀ {r a f : Int}, e_c S D r a f → e_c S' E r a f := fun h => ⟨⟨hD _ h.1.1, h.1.2⟩, hS _ _ _ _ h.2.1 (fun x hx => ⟨hD x hx.1, hx.2⟩), h.2.2⟩
  have ea : ∀ {n : Nat} {b f : Int}, e_a M T S D r n b f → e_a M T S' E r n b f := by
    intro n
    induction n with
    | zero => intro b f h; exact h
    | succ n ih => intro b f h; exact ⟨ec h.1, ih h.2⟩
  have eh : ∀ {k : Int} {l : List (Int × Int)} {acc f r : Int}, e_h M T S D k l acc f r → e_h M T S' E k l acc f r := by
    intro k l
    induction l with
    | nil => intro acc f r h; exact h
    | cons x l ih =>
      intro acc f r h
      obtain ⟨⟨a1, a2, a3⟩, b, c, f'⟩ := h
      refine ⟨⟨a1, a2, hD _ a3⟩, b, ?_, ih f'⟩
      rcases c with ⟨a, b, c⟩ | ⟨a, b, c, f⟩ | c | ⟨a, b, c⟩
      · exact .inl ⟨a, b, ec c⟩
      · exact .inr (.inl ⟨a, b, c, ec f⟩)
      · exact .inr (.inr (.inl c))
      · exact .inr (.inr (.inr ⟨a, b, ec c⟩))
  obtain ⟨h1, h2, h⟩ := h
  refine ⟨h1, h2, ?_⟩
  rcases h with h | h | ⟨a, b, c, f, g⟩ | ⟨a, b, c, f, g, i⟩ | ⟨a, b, c, ⟨lo, hi, f1, f2⟩, g, i, j, k⟩ | h | ⟨a, b, c⟩ | ⟨a, b, c⟩ | ⟨k, r0, l, a, b, c, f⟩ | ⟨a, b, c, f, g, i⟩ | ⟨a, b, c, f, g, i, j, k⟩ | ⟨a, b, c⟩ | ⟨a, b, c, lo, hi, x, f1, f2, f3, f4⟩
  · exact .inl h
  · exact .inr (.inl h)
  · exact .inr (.inr (.inl ⟨a, b, c, f, ec g⟩))
  · exact .inr (.inr (.inr (.inl ⟨a, b, c, f, ec g, ec i⟩)))
  · exact .inr (.inr (.inr (.inr (.inl ⟨a, b, c, ⟨lo, hi, fun x p q => hD x (f1 x p q), f2⟩, g, i, j, ea k⟩))))
  · exact .inr (.inr (.inr (.inr (.inr (.inl h)))))
  · exact .inr (.inr (.inr (.inr (.inr (.inr (.inl ⟨a, b, ec c⟩))))))
  · exact .inr (.inr (.inr (.inr (.inr (.inr (.inr (.inl ⟨a, b, ec c⟩)))))))
  · exact .inr (.inr (.inr (.inr (.inr (.inr (.inr (.inr (.inl ⟨k, r0, l, a, b, ec c, eh f⟩))))))))
  · exact .inr (.inr (.inr (.inr (.inr (.inr (.inr (.inr (.inr (.inl ⟨a, b, c, f, ec g, ec i⟩)))))))))
  · exact .inr (.inr (.inr (.inr (.inr (.inr (.inr (.inr (.inr (.inr (.inl ⟨a, b, c, f, ec g, ec i, ec j, ec k⟩))))))))))
  · exact .inr (.inr (.inr (.inr (.inr (.inr (.inr (.inr (.inr (.inr (.inr (.inl ⟨a, b, ec c⟩)))))))))))
  · exact .inr (.inr (.inr (.inr (.inr (.inr (.inr (.inr (.inr (.inr (.inr (.inr ⟨a, b, ec c, lo, hi, x, fun y p q => hD y (f1 y p q), f2, f3, f4⟩)))))))))))
theorem e_n_d {D E : Int → Prop} {r v : Int} (hD : ∀ x, D x → E x) (h : e_n M T D r v) : e_n M T E r v := by
  refine ⟨fun E a f => ∃ D : Int → Prop, (∀ x, D x → E x) ∧ e_n M T D a f, ⟨D, hD, h⟩, fun E a f ⟨D, q1, q2⟩ => ?_⟩
  exact e_s_d q1 (fun D E a f x y => ⟨D, y, x⟩) (e_n_un q2)
end
/-- the nodes from lo on, before hi, but v -/
def e_D (lo hi v : Int) : Int → Prop := fun x => (lo ≤ x ∧ x < hi) ∧ x ≠ v

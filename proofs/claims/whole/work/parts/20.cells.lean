/-! THE CELLS of the small machine: a list g of them; position p + 1 is g's p-th; position 0 is the script. -/
def mm_a (A : Nat → Nat) : vp_A → vp_A
  | (n, .inr (.inr (.inr (.inr f)))) => (n, .inr (.inr (.inr (.inr (fun i => (f i).map A)))))
  | a => a
def mm_e (A : Nat → Nat) (cT : Nat → Nat) : va_E → va_E
  | .inl (t, a) => .inl (cT t, mm_a A a)
  | .inr (ci, fs) => .inr (ci, fs.map (mm_v A))
def mm_W (A : Nat → Nat) (cT : Nat → Nat) : Nat → List va_E → va_W
  | _, [] => []
  | p, e :: r => (A (p + 1), mm_e A cT e) :: mm_W A cT (p + 1) r
theorem mm_W_get (A : Nat → Nat) (cT : Nat → Nat) : ∀ (g : List va_E) (p i : Nat), (mm_W A cT p g)[i]? = (g[i]?).map (fun e => (A (p + i + 1), mm_e A cT e))
  | [], p, i => by simp [mm_W]
  | e :: r, p, 0 => by simp [mm_W]
  | e :: r, p, i + 1 => by
    have := mm_W_get A cT r (p + 1) i
    simp only [mm_W, List.getElem?_cons_succ, this]
    rw [show p + 1 + i + 1 = p + (i + 1) + 1 by omega]
theorem mm_W_set (A : Nat → Nat) (cT : Nat → Nat) (e' : va_E) : ∀ (g : List va_E) (p i : Nat), (mm_W A cT p g).set i (A (p + i + 1), mm_e A cT e') = mm_W A cT p (g.set i e')
  | [], p, i => by simp [mm_W]
  | e :: r, p, 0 => by simp [mm_W]
  | e :: r, p, i + 1 => by
    have := mm_W_set A cT e' r (p + 1) i
    rw [show p + 1 + i + 1 = p + (i + 1) + 1 by omega] at this
    simp only [mm_W, List.set_cons_succ, this]
theorem mm_W_app (A : Nat → Nat) (cT : Nat → Nat) (e' : va_E) : ∀ (g : List va_E) (p : Nat), mm_W A cT p (g ++ [e']) = mm_W A cT p g ++ [(A (p + g.length + 1), mm_e A cT e')]
  | [], p => by simp [mm_W]
  | e :: r, p => by
    have := mm_W_app A cT e' r (p + 1)
    simp only [List.cons_append, mm_W, this, List.length_cons]
    rw [show p + 1 + r.length + 1 = p + (r.length + 1) + 1 by omega]
def mm_T (cT : Nat → Nat) : Nat → List FieldType → List (ClassId × FieldType)
  | _, [] => []
  | t, y :: r => (cT t, y) :: mm_T cT (t + 1) r
theorem mm_T_get (cT : Nat → Nat) : ∀ (l : List FieldType) (t i : Nat), (mm_T cT t l)[i]? = (l[i]?).map (fun y => (cT (t + i), y))
  | [], t, i => by simp [mm_T]
  | y :: r, t, 0 => by simp [mm_T]
  | y :: r, t, i + 1 => by
    have := mm_T_get cT r (t + 1) i
    simp only [mm_T, List.getElem?_cons_succ, this]
    rw [show t + 1 + i = t + (i + 1) by omega]
/-- what a heap is: the cells of g, the script, nothing else has changed since the method's start -/
def mm_R (D : va_G) (cl : List vw_C) (cT : Nat → Nat) (b : Nat → Nat) (z : Nat) (eX : Nat → Nat × (Nat → Int32)) (s : State) (g : List va_E) (H : Heap) (locs : List Loc) : Prop :=
  H.size = z + g.length ∧ va_P D cl (mm_W (mm_A b z) cT 0 g) H ∧ va_S (fun q => z ≤ q) s.heap H locs ∧ va_X (b 0) (eX 0).1 (eX 0).2 s s.heap ∧ (b 0 < z ∧ g.length ≤ 1000000) ∧ z ≤ s.heap.size
theorem mm_R.D {D : va_G} {cl : List vw_C} {cT : Nat → Nat} {b : Nat → Nat} {z : Nat} {eX : Nat → Nat × (Nat → Int32)} {s : State} {g : List va_E} {H : Heap} {locs : List Loc} (r : mm_R D cl cT b z eX s g H locs) : va_D (fun q => z ≤ q) (mm_W (mm_A b z) cT 0 g) := by
  refine ⟨fun i j p q hi hj he => ?_, fun k q hk => ?_⟩
  · rw [mm_W_get] at hi hj
    obtain ⟨e1, h1, rfl⟩ := Option.map_eq_some_iff.mp hi
    obtain ⟨e2, h2, rfl⟩ := Option.map_eq_some_iff.mp hj
    have l1 := (List.getElem?_eq_some_iff.mp h1).1
    have l2 := (List.getElem?_eq_some_iff.mp h2).1
    have hl := r.2.2.2.2.1.2
    rw [mm_A_of (by omega), mm_A_of (by omega)] at he
    omega
  · rw [mm_W_get] at hk
    obtain ⟨e1, h1, rfl⟩ := Option.map_eq_some_iff.mp hk
    have l1 := (List.getElem?_eq_some_iff.mp h1).1
    have hl := r.2.2.2.2.1.2
    show z ≤ mm_A b z (0 + k + 1)
    rw [mm_A_of (by omega)]
    omega
theorem mm_at {D : va_G} {cl : List vw_C} {cT : Nat → Nat} {b : Nat → Nat} {z : Nat} {eX : Nat → Nat × (Nat → Int32)} {s : State} {g : List va_E} {H : Heap} {locs : List Loc} (_ : mm_R D cl cT b z eX s g H locs) {q : Nat} {e : va_E} (h : g[q]? = some e) : (mm_W (mm_A b z) cT 0 g)[q]? = some (mm_A b z (q + 1), mm_e (mm_A b z) cT e) := by
  rw [mm_W_get, h]
  simp
theorem mm_R.set {D : va_G} {cl : List vw_C} {cT : Nat → Nat} {b : Nat → Nat} {z : Nat} {eX : Nat → Nat × (Nat → Int32)} {s : State} {g : List va_E} {H H1 : Heap} {locs locs1 : List Loc} (r : mm_R D cl cT b z eX s g H locs) {q : Nat} {e' : va_E}
    (hP : va_P D cl ((mm_W (mm_A b z) cT 0 g).set q (mm_A b z (q + 1), mm_e (mm_A b z) cT e')) H1) (hS : va_S (fun q => z ≤ q) s.heap H1 locs1) (hz : H1.size = H.size) : mm_R D cl cT b z eX s (g.set q e') H1 locs1 := by
  obtain ⟨h1, -, -, h4, h5, h6⟩ := r
  have hW := mm_W_set (mm_A b z) cT e' g 0 q
  rw [Nat.zero_add] at hW
  rw [hW] at hP
  exact ⟨by rw [hz, h1, List.length_set], hP, hS, h4, ⟨h5.1, by rw [List.length_set]; exact h5.2⟩, h6⟩
theorem mm_R.push {D : va_G} {cl : List vw_C} {cT : Nat → Nat} {b : Nat → Nat} {z : Nat} {eX : Nat → Nat × (Nat → Int32)} {s : State} {g : List va_E} {H H1 : Heap} {locs : List Loc} (r : mm_R D cl cT b z eX s g H locs) {e' : va_E}
    (hn : va_at D cl (H.size, mm_e (mm_A b z) cT e') H1) (hz : H1.size = H.size + 1) (ho : ∀ q, q < H.size → H1[q]? = H[q]?) (hl : g.length + 1 ≤ 1000000) : mm_R D cl cT b z eX s (g ++ [e']) H1 locs := by
  obtain ⟨h1, h2, h3, h4, h5, h6⟩ := r
  have hA : mm_A b z (0 + g.length + 1) = H.size := by rw [mm_A_of (by omega)]; omega
  refine ⟨by rw [hz, h1, List.length_append]; rfl, ?_, ⟨by have := h3.1; omega, fun q hq hn => ?_, h3.2.2⟩, h4, ⟨h5.1, by rw [List.length_append]; exact hl⟩, h6⟩
  · rw [mm_W_app, hA]
    refine (h2.kept fun k x hx => ho _ (h2 k x hx).lt).app (fun k x hx => ?_)
    have hk : k = 0 := by
      have := (List.getElem?_eq_some_iff.mp hx).1
      simp at this
      omega
    subst hk
    cases hx
    exact hn
  · rw [ho q (by have := h3.1; omega)]
    exact h3.2.1 q hq hn
theorem mm_R.X {D : va_G} {cl : List vw_C} {cT : Nat → Nat} {b : Nat → Nat} {z : Nat} {eX : Nat → Nat × (Nat → Int32)} {s : State} {g : List va_E} {H : Heap} {locs : List Loc} (r : mm_R D cl cT b z eX s g H locs) : va_X (b 0) (eX 0).1 (eX 0).2 s H := by
  obtain ⟨h1, h2, h3, h4, h5, h6⟩ := r
  obtain ⟨scr, q1, q2, q3, q4, q5⟩ := h4
  have h7 := h5.1
  exact ⟨scr, by rw [h3.2.1 (b 0) (by omega) (by omega)]; exact q1, q2, q3, q4, q5⟩

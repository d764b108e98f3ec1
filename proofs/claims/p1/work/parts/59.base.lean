/-! WHAT HOLDS AT THE LAW's START s0 HOLDS AT EVERY METHOD's START s: the tables are only warmer, the cells that were there are as they were. -/
def mm_B (s0 : State) (z : Nat) (s : State) : Prop := s0.WarmedH s.vm ∧ s0.heap.size = z ∧ ∀ q, q < z → s.heap[q]? = s0.heap[q]?
section MmBase
variable {s0 s : State} {z : Nat} {a0 args : Array Value}
theorem mm_B.good (B : mm_B s0 z s) {w : Cond} (hg : goodWord w = true) (h : w.before a0 s0 = true) : w.before args s = true := word_at B.1 (good_of_word hg) h
theorem mm_B.castable (B : mm_B s0 z s) {x y : String} (h : (Cond.castable x y).before a0 s0 = true) : (Cond.castable x y).before args s = true := by
  have h1 : (Cond.castable x y).before a0 (s0.setVm s.vm) = true := Cond.before_shiftedFace (State.Shifted.of_warmed B.1) _ rfl h
  exact h1
theorem mm_B.declares (B : mm_B s0 z s) {x : MethodName} (h : (Cond.declares x).before a0 s0 = true) : (Cond.declares x).before args s = true := by
  have h1 : (Cond.declares x).before a0 (s0.setVm s.vm) = true := Cond.before_shiftedFace (State.Shifted.of_warmed B.1) _ rfl h
  exact h1
theorem mm_B.laysStatic (B : mm_B s0 z s) {C n d : String} (h : (Cond.laysStatic C n d).before a0 s0 = true) : (Cond.laysStatic C n d).before args s = true := by
  have h1 : (Cond.laysStatic C n d).before a0 (s0.setVm s.vm) = true := Cond.laysStatic_setVm B.1.alike h
  obtain ⟨c, k, i, f, a, cell, q1, q2, q3, q4, q5, q6, q7, q8, q9⟩ := Cond.laysStatic_spec h1
  have q5' : s0.heap[a]? = some cell := q5
  have q5 : s.heap[a]? = some cell := by
    rw [B.2.2 a (by rw [← B.2.1]; exact (Array.getElem?_eq_some_iff.mp q5').1)]; exact q5'
  have q1 : s.vm.findClass C = some c := q1
  have q2 : s.fieldFound? C n d = some (c, k, i, f) := q2
  simp [Cond.before, Cond.holds, Cond.value, q1, q2, q3, q4, q5, q6, q7, q8, q9]
theorem mm_B.isRefStatic (B : mm_B s0 z s) {C n d : String} (hl : (Cond.laysStatic C n d).before a0 s0 = true) (h : (Cond.isRef (.static C n d)).before a0 s0 = true) : (Cond.isRef (.static C n d)).before args s = true := by
  have hv : ∃ v, (Term.static C n d).eval a0 s0 none [] s0 = some v ∧ (v = .null ∨ ∃ q, v = .ref q) := by
    simp only [Cond.before, Cond.holds, Cond.value] at h
    cases hv : (Term.static C n d).eval a0 s0 none [] s0 with
    | none => simp [hv] at h
    | some v => exact ⟨v, rfl, by cases v <;> simp [hv] at h <;> simp⟩
  obtain ⟨v, hv, hr⟩ := hv
  obtain ⟨c, k, i, f, a, cell, q1, q2, q3, q4, q5, q6, q7, q8, q9⟩ := Cond.laysStatic_spec hl
  obtain ⟨-, a', cell', ha', hcell', hun, hslot⟩ := Term.static_spec q2 hv
  cases q4.symm.trans ha'
  cases q5.symm.trans hcell'
  have q5' : s.heap[a]? = some cell := by
    rw [B.2.2 a (by rw [← B.2.1]; exact (Array.getElem?_eq_some_iff.mp q5).1)]; exact q5
  obtain ⟨k', hi', he⟩ := State.fieldFound?_setVm (vm' := s.vm) B.1.alike q2
  have hi' : s.fieldFound? C n d = some (c, k', i, f) := hi'
  have hst' : k'.statics = some a := by rw [he]; exact q4
  have : (Term.static C n d).eval args s none [] s = some v := by
    simp [Term.eval, State.fieldNamed?, hi', q3, hst', q5', q6, hslot]
  rcases hr with rfl | ⟨q, rfl⟩ <;> simp [Cond.before, Cond.holds, Cond.value, this]
theorem mm_B.over (B : mm_B s0 z s) {C : String} (h : (Cond.arrayOver (.object C)).before a0 s0 = true) : (Cond.arrayOver (.object C)).before args s = true :=
  va_AO.use (va_AO.moved B.1.alike (va_AO.of h))
theorem mm_B.string (B : mm_B s0 z s) {own tx : String} {i : Nat} (h : (Cond.stringRef own i tx).before a0 s0 = true) : ∃ a, vk_R own i tx a s := by
  have hc : ∃ cur, s0.vm.findClass own = some cur := by
    have h1 := h
    simp only [Cond.before, Cond.holds, Cond.value] at h1
    cases hc : s0.vm.findClass own with
    | none => simp [hc] at h1
    | some cur => exact ⟨cur, rfl⟩
  obtain ⟨cur, hc⟩ := hc
  obtain ⟨k, cf, i', a, -, -, -, -, -, he⟩ := Cond.stringRef_spec hc h
  exact ⟨a, vk_R.warm B.1 (vk_R.of h he)⟩
theorem mm_B.refl (hz : s0.heap.size = z) : mm_B s0 z s0 := ⟨State.WarmedH.refl s0, hz, fun _ _ => rfl⟩
end MmBase

/-! WHAT HOLDS AT THE LAW's START s0 HOLDS AT EVERY METHOD's START s: the tables are only warmer, the cells that were there are as they were. -/
def mm_B (s0 : State) (z : Nat) (s : State) : Prop := s0.WarmedH s.vm ∧ s0.heap.size = z ∧ ∀ q, q < z → s.heap[q]? = s0.heap[q]?
section MmBase
variable {s0 s : State} {z : Nat} {a0 args : Array Value}
theorem mm_B.good (B : mm_B s0 z s) {w : Cond} (hg : goodWord w = true) (h : w.before a0 s0 = true) : w.before args s = true := word_at B.1 (good_of_word hg) h
theorem mm_B.castable (B : mm_B s0 z s) {x y : String} (h : (Cond.castable x y).before a0 s0 = true) : (Cond.castable x y).before args s = true := by
  have h1 : (Cond.castable x y).before a0 (s0.setVm s.vm) = true := Cond.before_shiftedFace (State.Shifted.of_warmed B.1) _ rfl h
  exact h1
theorem mm_B.declares (B : mm_B s0 z s) {x : MethodName} (h : (Cond.declares x).before a0 s0 = true) : (Cond.declares x).before args s = true := by
  have h1 : (Cond.declares x).before a0 (s0.setVm s.vm) = true := Cond.before_shiftedFace (State.Shifted.of_warmed B.1) _ rfl h
  exact h1
theorem mm_B.laysStatic (B : mm_B s0 z s) {C n d : String} (h : (Cond.laysStatic C n d).before a0 s0 = true) : (Cond.laysStatic C n d).before args s = true := by
  have h1 : (Cond.laysStatic C n d).before a0 (s0.setVm s.vm) = true := Cond.laysStatic_setVm B.1.alike h
  obtain ⟨c, k, i, f, a, cell, q1, q2, q3, q4, q5, q6, q7, q8, q9⟩ := Cond.laysStatic_spec h1
  have q5' : s0.heap[a]? = some cell := q5
  have q5 : s.heap[a]? = some cell := by
    rw [B.2.2 a (by rw [← B.2.1]; exact (Array.getElem?_eq_some_iff.mp q5').1)]; exact q5'
  have q1 : s.vm.findClass C = some c := q1
  have q2 : s.fieldFound? C n d = some (c, k, i, f) := q2
  simp [Cond.before, Cond.holds, Cond.value, q1, q2, q3, q4, q5, q6, q7, q8, q9]
theorem mm_B.isRefStatic (B : mm_B s0 z s) {C n d : String} (hl : (Cond.laysStatic C n d).before a0 s0 = true) (h : (Cond.isRef (.static C n d)).before a0 s0 = true) : (Cond.isRef (.static C n d)).before args s = true := by
  have hv : ∃ v, (Term.static C n d).eval a0 s0 none [] s0 = some v ∧ (v = .null ∨ ∃ q, v = .ref q) := by
    simp only [Cond.before, Cond.holds, Cond.value] at h
    cases hv : (Term.static C n d).eval a0 s0 none [] s0 with
    | none => simp [hv] at h
    | some v => exact ⟨v, rfl, by cases v <;> simp [hv] at h <;> simp⟩
  obtain ⟨v, hv, hr⟩ := hv
  obtain ⟨c, k, i, f, a, cell, q1, q2, q3, q4, q5, q6, q7, q8, q9⟩ := Cond.laysStatic_spec hl
  obtain ⟨-, a', cell', ha', hcell', hun, hslot⟩ := Term.static_spec q2 hv
  cases q4.symm.trans ha'
  cases q5.symm.trans hcell'
  have q5' : s.heap[a]? = some cell := by
    rw [B.2.2 a (by rw [← B.2.1]; exact (Array.getElem?_eq_some_iff.mp q5).1)]; exact q5
  obtain ⟨k', hi', he⟩ := State.fieldFound?_setVm (vm' := s.vm) B.1.alike q2
  have hi' : s.fieldFound? C n d = some (c, k', i, f) := hi'
  have hst' : k'.statics = some a := by rw [he]; exact q4
  have : (Term.static C n d).eval args s none [] s = some v := by
    simp [Term.eval, State.fieldNamed?, hi', q3, hst', q5', q6, hslot]
  rcases hr with rfl | ⟨q, rfl⟩ <;> simp [Cond.before, Cond.holds, Cond.value, this]
theorem mm_B.over (B : mm_B s0 z s) {C : String} (h : (Cond.arrayOver (.object C)).before a0 s0 = true) : (Cond.arrayOver (.object C)).before args s = true :=
  va_AO.use (va_AO.moved B.1.alike (va_AO.of h))
theorem mm_B.string (B : mm_B s0 z s) {own tx : String} {i : Nat} (h : (Cond.stringRef own i tx).before a0 s0 = true) : ∃ a, vk_R own i tx a s := by
  have hc : ∃ cur, s0.vm.findClass own = some cur := by
    have h1 := h
    simp only [Cond.before, Cond.holds, Cond.value] at h1
    cases hc : s0.vm.findClass own with
    | none => simp [hc] at h1
    | some cur => exact ⟨cur, rfl⟩
  obtain ⟨cur, hc⟩ := hc
  obtain ⟨k, cf, i', a, -, -, -, -, -, he⟩ := Cond.stringRef_spec hc h
  exact ⟨a, vk_R.warm B.1 (vk_R.of h he)⟩
theorem mm_B.refl (hz : s0.heap.size = z) : mm_B s0 z s0 := ⟨State.WarmedH.refl s0, hz, fun _ _ => rfl⟩
end MmBase
theorem mm_B.overA {s0 s : State} {z : Nat} {a0 args : Array Value} (B : mm_B s0 z s) {y : FieldType} (h : (Cond.arrayOver (.array y)).before a0 s0 = true) : (Cond.arrayOver (.array y)).before args s = true := by
  obtain ⟨comp, c, k, h1, h2, h3, h4, h5⟩ := arrayOverA_spec h
  have hvm := B.1.alike
  obtain ⟨k', hk', he⟩ := hvm.2.2 _ _ h3
  have hi : (s.vm.classes.findIdx? fun (x : Class) => match x.kind with | .array component _ => component == comp | _ => false) = some c := by
    rw [hvm.findIdx?_eq _ (fun _ => rfl)]; exact h2
  have hkind : k'.kind = .array comp (.array y) := by rw [he]; exact h4
  have f1 : s.vm.findClass (FieldType.array y).toString = some comp := by rw [hvm.findClass]; exact h1
  have f2 : s.vm.findClass ("[" ++ (FieldType.array y).toString) = some c := by rw [hvm.findClass]; exact h5
  unfold Cond.before Cond.holds
  simp only [Cond.value]
  rw [f1, Option.bind_some]
  refine (congrArg (fun o : Option Nat => (o.bind (fun c => (s.vm.classes[c]?).map fun (k : Class) => match k.kind with | .array _ ty => decide (ty = FieldType.array y) && decide (s.vm.findClass ("[" ++ (FieldType.array y).toString) = some c) | _ => false) == some true)) hi).trans ?_
  simp [hk', hkind, f2]
theorem mm_B.nest {s0 s : State} {z : Nat} {a0 args : Array Value} (B : mm_B s0 z s) {a : String} {i : Nat} {x : MethodName} {h : String} (hw : (Cond.methodLinkNest a i x h).before a0 s0 = true) : (Cond.methodLinkNest a i x h).before args s = true :=
  va_Nw.use rfl (va_Nw.warmM B.1 (va_Nw.of rfl hw))
def mm_gw (w : Cond) : Bool := goodWord w || match w with
  | .castable _ _ => true
  | .declares _ => true
  | .laysStatic _ _ _ => true
  | .arrayOver (.object _) => true
  | .arrayOver (.array _) => true
  | .methodLinkNest _ _ _ _ => true
  | _ => false
theorem mm_B.word {s0 s : State} {z : Nat} {a0 args : Array Value} (B : mm_B s0 z s) {w : Cond} (hg : mm_gw w = true) (h : w.before a0 s0 = true) : w.before args s = true := by
  unfold mm_gw at hg
  rcases Bool.or_eq_true _ _ |>.mp hg with h1 | h1
  · exact B.good h1 h
  · split at h1
    · exact B.castable h
    · exact B.declares h
    · exact B.laysStatic h
    · exact B.over h
    · exact B.overA h
    · exact B.nest h
    · cases h1

/-! ROWS OF TABLES, as conjunctions that a term proves. -/
def mm_allL {α : Type} (p : α → Prop) : List α → Prop
  | [] => True
  | x :: l => p x ∧ mm_allL p l
theorem mm_allL_mem {α : Type} {p : α → Prop} : ∀ {l : List α}, mm_allL p l → ∀ x ∈ l, p x
  | [], _, x, hx => (List.not_mem_nil hx).elim
  | y :: l, h, x, hx => by
    rcases List.mem_cons.mp hx with rfl | hx
    · exact h.1
    · exact mm_allL_mem h.2 x hx
def mm_all1P {α : Type} (c : Nat → α → Prop) : Nat → List α → Prop
  | _, [] => True
  | o, r :: l => c o r ∧ mm_all1P c (o + 1) l
theorem mm_all1P_ok {α : Type} {c : Nat → α → Prop} : ∀ {l : List α} {n : Nat}, mm_all1P c n l → ∀ {o : Nat} {v : α}, l[o]? = some v → c (n + o) v
  | [], n, _, o, v, hv => by simp at hv
  | r :: l, n, h, 0, v, hv => by
    cases hv
    exact h.1
  | r :: l, n, h, o + 1, v, hv => by
    rw [List.getElem?_cons_succ] at hv
    have := mm_all1P_ok h.2 hv
    rw [show n + (o + 1) = n + 1 + o by omega]
    exact this
def mm_all2P {α : Type} (c : Nat → Nat → α → Prop) : Nat → List (List (Nat × α)) → Prop
  | _, [] => True
  | o, r :: l => mm_allL (fun q => c o q.1 q.2) r ∧ mm_all2P c (o + 1) l
theorem mm_all2P_ok' {α : Type} {c : Nat → Nat → α → Prop} : ∀ {l : List (List (Nat × α))} {n : Nat}, mm_all2P c n l → ∀ {o : Nat} {r : List (Nat × α)}, l[o]? = some r → mm_allL (fun q => c (n + o) q.1 q.2) r
  | [], n, _, o, v, hv => by simp at hv
  | r :: l, n, h, 0, v, hv => by
    cases hv
    exact h.1
  | r :: l, n, h, o + 1, v, hv => by
    rw [List.getElem?_cons_succ] at hv
    have := mm_all2P_ok' h.2 hv
    rw [show n + (o + 1) = n + 1 + o by omega]
    exact this
theorem mm_all2P_ok {α : Type} {c : Nat → Nat → α → Prop} {l : List (List (Nat × α))} {n : Nat} (h : mm_all2P c n l) {o i : Nat} {v : α} (hv : mm_fd2 l o i = some v) : c (n + o) i v := by
  obtain ⟨r, hr, hm⟩ := mm_fd2_mem hv
  exact mm_allL_mem (mm_all2P_ok' h hr) _ hm
/-- the fields' names differ, by their letters -/
theorem mm_apart {N : List (List Char)} {T : u_T} {n : Nat} (hn : N.Nodup) (h : ∀ j ∈ List.range n, (N[j]?).map String.ofList = some (T j).2.1) : ∀ a, a < n → ∀ b, b < n → a ≠ b → (T a).2.1 ≠ (T b).2.1 := by
  intro a ha b hb hab he
  obtain ⟨x, hx, ex⟩ := Option.map_eq_some_iff.mp (h a (List.mem_range.mpr ha))
  obtain ⟨y, hy, ey⟩ := Option.map_eq_some_iff.mp (h b (List.mem_range.mpr hb))
  have hxy : x = y := String.ofList_injective (ex.trans (he.trans ey.symm))
  subst hxy
  obtain ⟨ha', hxa⟩ := List.getElem?_eq_some_iff.mp hx
  obtain ⟨hb', hxb⟩ := List.getElem?_eq_some_iff.mp hy
  exact hab ((List.getElem_inj hn).mp (hxa.trans hxb.symm))
theorem mm_noref {l : List Value} (h : l.all (fun x => match x with | .ref _ => false | _ => true) = true) : ∀ x ∈ l, ∀ q, x ≠ .ref q := fun x hx q hq => by
  have := List.all_eq_true.mp h x hx
  rw [hq] at this
  cases this
theorem mm_dfl {n : Nat} {ft : Nat → FieldType × Bool} {l : List Value} (h : (List.range n).all (fun j => decide (defaultValue (ft j).1 = vp_V l j)) = true) : ∀ j, j < n → defaultValue (ft j).1 = vp_V l j := fun j hj => of_decide_eq_true (List.all_eq_true.mp h j (List.mem_range.mpr hj))
section MmRows
variable {P : mm_P} {TB : List Cond} {SB : List (String × Nat × String)} {cl : List vw_C} {cn : Nat → String} {ky : Nat → MethodName} {kb : Nat → ByteArray} {hs : Nat → List (Nat × Nat × Nat × Nat)} {xX : Nat → Prop} {o i k na : Nat}
/-- what holds of a method that is called -/
def mm_cf (P : mm_P) (TB : List Cond) (cn : Nat → String) (ky : Nat → MethodName) (kb : Nat → ByteArray) (hs : Nat → List (Nat × Nat × Nat × Nat)) (k : Nat) : Prop :=
  mm_kw P ky kb hs TB k ∧ Cond.initialized (ky k).cls ∈ TB ∧ ((ky k).cls ≠ "java/lang/invoke/MethodHandle" ∧ (ky k).cls ≠ "java/lang/invoke/VarHandle") ∧ plainFor (ky k) = true ∧ cn (mm_kc P k) = (ky k).cls ∧ (mm_ki P k = true → (ky k).name = "<init>")
/-- what a row of calls says -/
def mm_mR (P : mm_P) (TB : List Cond) (cl : List vw_C) (cn : Nat → String) (ky : Nat → MethodName) (kb : Nat → ByteArray) (hs : Nat → List (Nat × Nat × Nat × Nat)) (o i : Nat) (v : Nat × Nat × Nat) : Prop :=
  (v.2.2 ≠ 3 → v.2.2 ≠ 4 → mm_kw P ky kb hs TB v.1 ∧ (v.2.2 = 5 ∨ Cond.methodLink (cn o) i (ky v.1) ∈ TB) ∧ Cond.initialized (ky v.1).cls ∈ TB ∧ ((ky v.1).cls ≠ "java/lang/invoke/MethodHandle" ∧ (ky v.1).cls ≠ "java/lang/invoke/VarHandle") ∧ plainFor (ky v.1) = true ∧ cn (mm_kc P v.1) = (ky v.1).cls ∧ (mm_ki P v.1 = true → (ky v.1).name = "<init>")
      ∧ (v.2.2 = 5 → ∃ host, Cond.methodLinkNest (cn o) i (ky v.1) host ∈ TB)
      ∧ (v.2.2 = 0 ∨ v.2.2 = 5 → Cond.static (ky v.1) ∈ TB ∧ (parseMethodDescriptor (ky v.1).desc).map (fun d => d.parameters.length) = some v.2.1)
      ∧ (v.2.2 = 1 → Cond.instanceMethod (ky v.1) ∈ TB ∧ Cond.selects (ky v.1).cls (ky v.1) (ky v.1) ∈ TB ∧ (parseMethodDescriptor (ky v.1).desc).map (fun d => d.parameters.length + 1) = some v.2.1 ∧ ∃ T N, cl[mm_kc P v.1]? = some ((ky v.1).cls, T, N))
      ∧ (v.2.2 = 2 → Cond.instanceMethod (ky v.1) ∈ TB ∧ (ky v.1).name = "<init>" ∧ mm_kr P v.1 = none ∧ Cond.code (ky v.1) (kb v.1) (mm_kl P v.1) none ∈ TB ∧ (parseMethodDescriptor (ky v.1).desc).map (fun d => d.parameters.length + 1) = some v.2.1)
      ∧ (v.2.2 = 7 → Cond.instanceMethod (ky v.1) ∈ TB ∧ Cond.selects (ky v.1).cls (ky v.1) (ky v.1) ∈ TB ∧ (parseMethodDescriptor (ky v.1).desc).map (fun d => d.parameters.length + 1) = some v.2.1 ∧ (ky v.1).cls = "java/lang/String"))
  ∧ (v.2.2 = 3 → Cond.methodLink (cn o) i Lib.objectInit ∈ TB ∧ Cond.instanceMethod Lib.objectInit ∈ TB ∧ Cond.code Lib.objectInit ⟨#[0xb1]⟩ 1 none ∈ TB)
  ∧ (v.2.2 = 4 → Cond.methodLink (cn o) i arraycopyName ∈ TB ∧ Cond.native arraycopyName ∈ TB ∧ Cond.static arraycopyName ∈ TB ∧ Cond.initialized "java/lang/System" ∈ TB)
theorem mm_mr3 (h : Cond.methodLink (cn o) i Lib.objectInit ∈ TB ∧ Cond.instanceMethod Lib.objectInit ∈ TB ∧ Cond.code Lib.objectInit ⟨#[0xb1]⟩ 1 none ∈ TB) : mm_mR P TB cl cn ky kb hs o i (k, na, 3) := ⟨fun q => absurd rfl q, fun _ => h, fun q => by cases q⟩
theorem mm_mr4 (h : Cond.methodLink (cn o) i arraycopyName ∈ TB ∧ Cond.native arraycopyName ∈ TB ∧ Cond.static arraycopyName ∈ TB ∧ Cond.initialized "java/lang/System" ∈ TB) : mm_mR P TB cl cn ky kb hs o i (k, na, 4) := ⟨fun _ q => absurd rfl q, (fun q => by cases q), fun _ => h⟩
theorem mm_mr0 (h : mm_cf P TB cn ky kb hs k) (h1 : Cond.methodLink (cn o) i (ky k) ∈ TB) (h2 : Cond.static (ky k) ∈ TB) (h3 : (parseMethodDescriptor (ky k).desc).map (fun d => d.parameters.length) = some na) : mm_mR P TB cl cn ky kb hs o i (k, na, 0) :=
  ⟨fun _ _ => ⟨h.1, Or.inr h1, h.2.1, h.2.2.1, h.2.2.2.1, h.2.2.2.2.1, h.2.2.2.2.2, (fun q => by cases q), fun _ => ⟨h2, h3⟩, (fun q => by cases q), (fun q => by cases q), (fun q => by cases q)⟩, (fun q => by cases q), fun q => by cases q⟩
theorem mm_mr5 (h : mm_cf P TB cn ky kb hs k) (h1 : ∃ host, Cond.methodLinkNest (cn o) i (ky k) host ∈ TB) (h2 : Cond.static (ky k) ∈ TB) (h3 : (parseMethodDescriptor (ky k).desc).map (fun d => d.parameters.length) = some na) : mm_mR P TB cl cn ky kb hs o i (k, na, 5) :=
  ⟨fun _ _ => ⟨h.1, Or.inl rfl, h.2.1, h.2.2.1, h.2.2.2.1, h.2.2.2.2.1, h.2.2.2.2.2, fun _ => h1, fun _ => ⟨h2, h3⟩, (fun q => by cases q), (fun q => by cases q), (fun q => by cases q)⟩, (fun q => by cases q), fun q => by cases q⟩
theorem mm_mr1 (h : mm_cf P TB cn ky kb hs k) (h1 : Cond.methodLink (cn o) i (ky k) ∈ TB) (h2 : Cond.instanceMethod (ky k) ∈ TB) (h3 : Cond.selects (ky k).cls (ky k) (ky k) ∈ TB) (h4 : (parseMethodDescriptor (ky k).desc).map (fun d => d.parameters.length + 1) = some na) (h5 : ∃ T N, cl[mm_kc P k]? = some ((ky k).cls, T, N)) : mm_mR P TB cl cn ky kb hs o i (k, na, 1) :=
  ⟨fun _ _ => ⟨h.1, Or.inr h1, h.2.1, h.2.2.1, h.2.2.2.1, h.2.2.2.2.1, h.2.2.2.2.2, (fun q => by cases q), (fun q => by rcases q with q | q <;> cases q), fun _ => ⟨h2, h3, h4, h5⟩, (fun q => by cases q), (fun q => by cases q)⟩, (fun q => by cases q), fun q => by cases q⟩
theorem mm_mr2 (h : mm_cf P TB cn ky kb hs k) (h1 : Cond.methodLink (cn o) i (ky k) ∈ TB) (h2 : Cond.instanceMethod (ky k) ∈ TB) (h3 : (ky k).name = "<init>") (h4 : mm_kr P k = none) (h5 : Cond.code (ky k) (kb k) (mm_kl P k) none ∈ TB) (h6 : (parseMethodDescriptor (ky k).desc).map (fun d => d.parameters.length + 1) = some na) : mm_mR P TB cl cn ky kb hs o i (k, na, 2) :=
  ⟨fun _ _ => ⟨h.1, Or.inr h1, h.2.1, h.2.2.1, h.2.2.2.1, h.2.2.2.2.1, h.2.2.2.2.2, (fun q => by cases q), (fun q => by rcases q with q | q <;> cases q), (fun q => by cases q), fun _ => ⟨h2, h3, h4, h5, h6⟩, (fun q => by cases q)⟩, (fun q => by cases q), fun q => by cases q⟩
theorem mm_mr7 (h : mm_cf P TB cn ky kb hs k) (h1 : Cond.methodLink (cn o) i (ky k) ∈ TB) (h2 : Cond.instanceMethod (ky k) ∈ TB) (h3 : Cond.selects (ky k).cls (ky k) (ky k) ∈ TB) (h4 : (parseMethodDescriptor (ky k).desc).map (fun d => d.parameters.length + 1) = some na) (h5 : (ky k).cls = "java/lang/String") : mm_mR P TB cl cn ky kb hs o i (k, na, 7) :=
  ⟨fun _ _ => ⟨h.1, Or.inr h1, h.2.1, h.2.2.1, h.2.2.2.1, h.2.2.2.2.1, h.2.2.2.2.2, (fun q => by cases q), (fun q => by rcases q with q | q <;> cases q), (fun q => by cases q), (fun q => by cases q), fun _ => ⟨h2, h3, h4, h5⟩⟩, (fun q => by cases q), fun q => by cases q⟩
/-- what a row of throws says -/
def mm_xR (P : mm_P) (TB : List Cond) (SB : List (String × Nat × String)) (cl : List vw_C) (cn : Nat → String) (kb : Nat → ByteArray) (hs : Nat → List (Nat × Nat × Nat × Nat)) (xX : Nat → Prop) (k pc ci : Nat) : Prop :=
  xX ci ∧ (∀ x ∈ hs k, ¬ (x.1 ≤ pc + 9 ∧ pc + 9 < x.2.1)) ∧ ∃ (X : String) (T : u_T) (i si ic : Nat) (tx : String) (names : List String), cl[ci]? = some (X, T, 0)
      ∧ decode (kb k) pc = .ok (.new i, 3) ∧ decode (kb k) (pc + 3) = .ok (.dup, 1) ∧ decode (kb k) (pc + 4) = .ok (.ldc si, 2) ∧ decode (kb k) (pc + 6) = .ok (.invokespecial ic, 3) ∧ decode (kb k) (pc + 9) = .ok (.athrow, 1)
      ∧ Cond.classLink (cn (mm_kc P k)) i X ∈ TB ∧ Cond.instantiable X 6 ∈ TB ∧ Cond.initialized X ∈ TB ∧ (cn (mm_kc P k), si, tx) ∈ SB ∧ Bundle.fit X = true ∧ (∀ n ∈ names, Bundle.fit n = true) ∧ names.length = 2
      ∧ ∀ w ∈ Bundle.ownAtoms (cn (mm_kc P k)) ic X names, w ∈ TB ∨ w = .isRef (.static Bundle.tN "UNASSIGNED_STACK" Bundle.steD) ∨ w = .isRef (.static Bundle.tN "SUPPRESSED_SENTINEL" Bundle.listD)
end MmRows

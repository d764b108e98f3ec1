/-! CHECKS of table rows that the kernel can decide, and what they give. -/
def mm_swc (bs : ByteArray) (pc : Nat) (v : Int × Nat × List Nat) : Bool := match decode bs pc with
  | .ok (.tableswitch dflt lo hi offs, _) => decide (lo = v.1 ∧ hi = v.1 + (v.2.2.length : Int) - 1 ∧ (pc : Int) + dflt = (v.2.1 : Int) ∧ offs.toList.map (fun o => (pc : Int) + o) = v.2.2.map (fun t : Nat => (t : Int)))
  | _ => false
theorem mm_swc_ok {bs : ByteArray} {pc : Nat} {lo : Int} {dt : Nat} {ts : List Nat} (h : mm_swc bs pc (lo, dt, ts) = true) : ∃ (dflt : Int) (offs : Array Int) (len : Nat), decode bs pc = .ok (.tableswitch dflt lo (lo + (ts.length : Int) - 1) offs, len) ∧ (pc : Int) + dflt = (dt : Int) ∧ ∀ i t : Nat, ts[i]? = some t → ∃ off, offs[i]? = some off ∧ (pc : Int) + off = (t : Int) := by
  unfold mm_swc at h
  split at h
  · rename_i dflt lo' hi offs len hd
    obtain ⟨h1, h2, h3, h4⟩ := of_decide_eq_true h
    dsimp only at h1 h2 h3 h4
    subst h1
    subst h2
    refine ⟨dflt, offs, len, hd, h3, fun i t ht => ?_⟩
    have h5 : (offs.toList.map (fun o => (pc : Int) + o))[i]? = some (t : Int) := by rw [h4, List.getElem?_map, ht]; rfl
    rw [List.getElem?_map] at h5
    obtain ⟨off, o1, o2⟩ := Option.map_eq_some_iff.mp h5
    exact ⟨off, by rw [← Array.getElem?_toList]; exact o1, o2⟩
  · cases h
/-- two keys -/
def mm_fd2 {α : Type} (l : List (List (Nat × α))) (o i : Nat) : Option α := match l[o]? with
  | some r => mm_fd r i
  | none => none
theorem mm_fd2_mem {α : Type} {l : List (List (Nat × α))} {o i : Nat} {v : α} (h : mm_fd2 l o i = some v) : ∃ r, l[o]? = some r ∧ (i, v) ∈ r := by
  unfold mm_fd2 at h
  split at h
  · rename_i r hr
    exact ⟨r, hr, mm_fd_mem h⟩
  · cases h
/-- all rows of a table by two keys pass a check -/
def mm_all2 {α : Type} (c : Nat → Nat → α → Bool) : Nat → List (List (Nat × α)) → Bool
  | _, [] => true
  | o, r :: l => r.all (fun q => c o q.1 q.2) && mm_all2 c (o + 1) l
theorem mm_all2_ok {α : Type} {c : Nat → Nat → α → Bool} : ∀ {l : List (List (Nat × α))} {n : Nat}, mm_all2 c n l = true → ∀ {o i : Nat} {v : α}, mm_fd2 l o i = some v → c (n + o) i v = true
  | [], n, _, o, i, v, hv => by simp [mm_fd2] at hv
  | r :: l, n, h, o, i, v, hv => by
    simp only [mm_all2, Bool.and_eq_true] at h
    obtain ⟨r', hr, hm⟩ := mm_fd2_mem hv
    cases o with
    | zero =>
      cases hr
      have := List.all_eq_true.mp h.1 _ hm
      simpa using this
    | succ o =>
      have hv' : mm_fd2 l o i = some v := by
        unfold mm_fd2 at hv ⊢
        rw [List.getElem?_cons_succ] at hv
        exact hv
      have := mm_all2_ok h.2 hv'
      rw [show n + (o + 1) = n + 1 + o by omega]
      exact this
theorem mm_nth {TB : List Cond} {p : Nat} {w : Cond} (h : decide (TB[p]? = some w) = true) : w ∈ TB := List.mem_of_getElem? (of_decide_eq_true h)
/-- a field's row: (class, place, the word's number) -/
def mm_flc (TB : List Cond) (cl : List vw_C) (cn : Nat → String) (o i : Nat) (v : Nat × Nat × Nat) : Bool := match cl[v.1]? with
  | some (_, T, N) => decide (v.2.1 < N) && decide (TB[v.2.2]? = some (Cond.fieldLink (cn o) i (T v.2.1).1 (T v.2.1).2.1 (T v.2.1).2.2.1))
  | none => false
/-- a row of 'new': (class, defaults, the words' numbers) -/
def mm_nlc (TB : List Cond) (cl : List vw_C) (cn : Nat → String) (ft : Nat → Nat → FieldType × Bool) (o i : Nat) (v : (Nat × List Value) × Nat × Nat × Nat) : Bool := match cl[v.1.1]? with
  | some (C, _, N) => decide (TB[v.2.1]? = some (Cond.classLink (cn o) i C)) && decide (TB[v.2.2.1]? = some (Cond.instantiable C N)) && decide (TB[v.2.2.2]? = some (Cond.initialized C)) && decide (v.1.2.length = N) && v.1.2.all (fun x => match x with | .ref _ => false | _ => true) && (List.range N).all (fun j => decide (defaultValue (ft v.1.1 j).1 = vp_V v.1.2 j))
  | none => false
def mm_alc (TB : List Cond) (tyl : List FieldType) (cn : Nat → String) (o i : Nat) (v : Nat × Nat × Nat) : Bool := match tyl[v.1]? with
  | some (.object C) => decide (TB[v.2.1]? = some (Cond.classLink (cn o) i C)) && decide (TB[v.2.2]? = some (Cond.arrayOver (.object C)))
  | some (.array y) => decide (TB[v.2.1]? = some (Cond.classLink (cn o) i (FieldType.array y).toString)) && decide (TB[v.2.2]? = some (Cond.arrayOver (.array y)))
  | _ => false
theorem mm_flc_ok {TB : List Cond} {cl : List vw_C} {cn : Nat → String} {o i : Nat} {v : Nat × Nat × Nat} (h : mm_flc TB cl cn o i v = true) : ∃ C T N, cl[v.1]? = some (C, T, N) ∧ v.2.1 < N ∧ Cond.fieldLink (cn o) i (T v.2.1).1 (T v.2.1).2.1 (T v.2.1).2.2.1 ∈ TB := by
  unfold mm_flc at h
  split at h
  · rename_i C T N hc
    simp only [Bool.and_eq_true] at h
    exact ⟨C, T, N, hc, of_decide_eq_true h.1, mm_nth h.2⟩
  · cases h
theorem mm_nlc_ok {TB : List Cond} {cl : List vw_C} {cn : Nat → String} {ft : Nat → Nat → FieldType × Bool} {o i : Nat} {v : (Nat × List Value) × Nat × Nat × Nat} (h : mm_nlc TB cl cn ft o i v = true) : ∃ C T N, cl[v.1.1]? = some (C, T, N) ∧ Cond.classLink (cn o) i C ∈ TB ∧ Cond.instantiable C N ∈ TB ∧ Cond.initialized C ∈ TB ∧ v.1.2.length = N ∧ (∀ x ∈ v.1.2, ∀ q, x ≠ .ref q) ∧ ∀ j, j < N → defaultValue (ft v.1.1 j).1 = vp_V v.1.2 j := by
  unfold mm_nlc at h
  split at h
  · rename_i C T N hc
    simp only [Bool.and_eq_true] at h
    obtain ⟨⟨⟨⟨⟨h1, h2⟩, h3⟩, h4⟩, h5⟩, h6⟩ := h
    refine ⟨C, T, N, hc, mm_nth h1, mm_nth h2, mm_nth h3, of_decide_eq_true h4, fun x hx q hq => ?_, fun j hj => of_decide_eq_true (List.all_eq_true.mp h6 j (List.mem_range.mpr hj))⟩
    have := List.all_eq_true.mp h5 x hx
    rw [hq] at this
    cases this
  · cases h
theorem mm_alc_ok {TB : List Cond} {tyl : List FieldType} {cn : Nat → String} {o i : Nat} {v : Nat × Nat × Nat} (h : mm_alc TB tyl cn o i v = true) : (∃ C, tyl[v.1]? = some (.object C) ∧ Cond.classLink (cn o) i C ∈ TB ∧ Cond.arrayOver (.object C) ∈ TB) ∨ (∃ y, tyl[v.1]? = some (.array y) ∧ Cond.classLink (cn o) i (FieldType.array y).toString ∈ TB ∧ Cond.arrayOver (.array y) ∈ TB) := by
  unfold mm_alc at h
  split at h
  · rename_i C hc
    simp only [Bool.and_eq_true] at h
    exact Or.inl ⟨C, hc, mm_nth h.1, mm_nth h.2⟩
  · rename_i y hc
    simp only [Bool.and_eq_true] at h
    exact Or.inr ⟨y, hc, mm_nth h.1, mm_nth h.2⟩
  · cases h
/-- a call's row: ((method, values, kind), numbers of words: link, initialized, static or instance, selects, code) -/
def mm_mlc (TB : List Cond) (cl : List vw_C) (cn : Nat → String) (ky : Nat → MethodName) (kb : Nat → ByteArray) (kl : Nat → Nat) (kr : Nat → Option FieldType) (ki : Nat → Bool) (kc : Nat → Nat) (hs : Nat → List (Nat × Nat × Nat × Nat)) (o i : Nat) (v : (Nat × Nat × Nat) × Nat × Nat × Nat × Nat × Nat) : Bool :=
  match v with
  | ((k', na, kd), p, pi, pa, pb, pcd) =>
    match kd with
    | 3 => decide (TB[p]? = some (Cond.methodLink (cn o) i Lib.objectInit)) && decide (TB[pa]? = some (Cond.instanceMethod Lib.objectInit)) && decide (TB[pcd]? = some (Cond.code Lib.objectInit ⟨#[0xb1]⟩ 1 none))
    | 4 => decide (TB[p]? = some (Cond.methodLink (cn o) i arraycopyName)) && decide (TB[pi]? = some (Cond.initialized "java/lang/System")) && decide (TB[pa]? = some (Cond.static arraycopyName)) && decide (TB[pb]? = some (Cond.native arraycopyName))
    | kd => (decide (TB[pcd]? = some (Cond.code (ky k') (kb k') (kl k') (kr k')) ∧ hs k' = []) || decide (TB[pcd]? = some (Cond.codeWith (ky k') (kb k') (kl k') (kr k') (hs k')))) && decide (TB[pi]? = some (Cond.initialized (ky k').cls)) && decide ((ky k').cls ≠ "java/lang/invoke/MethodHandle" ∧ (ky k').cls ≠ "java/lang/invoke/VarHandle") && plainFor (ky k') && decide (cn (kc k') = (ky k').cls) && decide (ki k' = true → (ky k').name = "<init>")
      && (match kd with
        | 0 => decide (TB[p]? = some (Cond.methodLink (cn o) i (ky k'))) && decide (TB[pa]? = some (Cond.static (ky k'))) && decide ((parseMethodDescriptor (ky k').desc).map (fun d => d.parameters.length) = some na)
        | 5 => (match TB[p]? with | some (.methodLinkNest a j x _) => decide (a = cn o ∧ j = i ∧ x = ky k') | _ => false) && decide (TB[pa]? = some (Cond.static (ky k'))) && decide ((parseMethodDescriptor (ky k').desc).map (fun d => d.parameters.length) = some na)
        | 1 => decide (TB[p]? = some (Cond.methodLink (cn o) i (ky k'))) && decide (TB[pa]? = some (Cond.instanceMethod (ky k'))) && decide (TB[pb]? = some (Cond.selects (ky k').cls (ky k') (ky k'))) && decide ((parseMethodDescriptor (ky k').desc).map (fun d => d.parameters.length + 1) = some na) && (match cl[kc k']? with | some (C, _, _) => decide (C = (ky k').cls) | none => false)
        | 2 => decide (TB[p]? = some (Cond.methodLink (cn o) i (ky k'))) && decide (TB[pa]? = some (Cond.instanceMethod (ky k'))) && decide ((ky k').name = "<init>") && decide (kr k' = none) && decide (TB[pcd]? = some (Cond.code (ky k') (kb k') (kl k') none)) && decide ((parseMethodDescriptor (ky k').desc).map (fun d => d.parameters.length + 1) = some na)
        | _ => false)
theorem mm_mlc_3 {TB : List Cond} {cl : List vw_C} {cn : Nat → String} {ky : Nat → MethodName} {kb : Nat → ByteArray} {kl : Nat → Nat} {kr : Nat → Option FieldType} {ki : Nat → Bool} {kc : Nat → Nat} {hs : Nat → List (Nat × Nat × Nat × Nat)} {o i k' na : Nat} {w : Nat × Nat × Nat × Nat × Nat} (h : mm_mlc TB cl cn ky kb kl kr ki kc hs o i ((k', na, 3), w) = true) : Cond.methodLink (cn o) i Lib.objectInit ∈ TB ∧ Cond.instanceMethod Lib.objectInit ∈ TB ∧ Cond.code Lib.objectInit ⟨#[0xb1]⟩ 1 none ∈ TB := by
  obtain ⟨p, pi, pa, pb, pcd⟩ := w
  simp only [mm_mlc, Bool.and_eq_true] at h
  exact ⟨mm_nth h.1.1, mm_nth h.1.2, mm_nth h.2⟩
theorem mm_mlc_4 {TB : List Cond} {cl : List vw_C} {cn : Nat → String} {ky : Nat → MethodName} {kb : Nat → ByteArray} {kl : Nat → Nat} {kr : Nat → Option FieldType} {ki : Nat → Bool} {kc : Nat → Nat} {hs : Nat → List (Nat × Nat × Nat × Nat)} {o i k' na : Nat} {w : Nat × Nat × Nat × Nat × Nat} (h : mm_mlc TB cl cn ky kb kl kr ki kc hs o i ((k', na, 4), w) = true) : Cond.methodLink (cn o) i arraycopyName ∈ TB ∧ Cond.native arraycopyName ∈ TB ∧ Cond.static arraycopyName ∈ TB ∧ Cond.initialized "java/lang/System" ∈ TB := by
  obtain ⟨p, pi, pa, pb, pcd⟩ := w
  simp only [mm_mlc, Bool.and_eq_true] at h
  exact ⟨mm_nth h.1.1.1, mm_nth h.2, mm_nth h.1.2, mm_nth h.1.1.2⟩
theorem mm_mlc_ok {TB : List Cond} {cl : List vw_C} {cn : Nat → String} {ky : Nat → MethodName} {kb : Nat → ByteArray} {P : mm_P} {hs : Nat → List (Nat × Nat × Nat × Nat)} {o i k' na kd : Nat} {w : Nat × Nat × Nat × Nat × Nat} (h : mm_mlc TB cl cn ky kb (mm_kl P) (mm_kr P) (mm_ki P) (mm_kc P) hs o i ((k', na, kd), w) = true) (h3 : kd ≠ 3) (h4 : kd ≠ 4) :
    mm_kw P ky kb hs TB k' ∧ (kd = 5 ∨ Cond.methodLink (cn o) i (ky k') ∈ TB) ∧ Cond.initialized (ky k').cls ∈ TB ∧ ((ky k').cls ≠ "java/lang/invoke/MethodHandle" ∧ (ky k').cls ≠ "java/lang/invoke/VarHandle") ∧ plainFor (ky k') = true ∧ cn (mm_kc P k') = (ky k').cls ∧ (mm_ki P k' = true → (ky k').name = "<init>")
      ∧ (kd = 5 → ∃ host, Cond.methodLinkNest (cn o) i (ky k') host ∈ TB)
      ∧ (kd = 0 ∨ kd = 5 → Cond.static (ky k') ∈ TB ∧ (parseMethodDescriptor (ky k').desc).map (fun d => d.parameters.length) = some na)
      ∧ (kd = 1 → Cond.instanceMethod (ky k') ∈ TB ∧ Cond.selects (ky k').cls (ky k') (ky k') ∈ TB ∧ (parseMethodDescriptor (ky k').desc).map (fun d => d.parameters.length + 1) = some na ∧ ∃ T N, cl[mm_kc P k']? = some ((ky k').cls, T, N))
      ∧ (kd = 2 → Cond.instanceMethod (ky k') ∈ TB ∧ (ky k').name = "<init>" ∧ mm_kr P k' = none ∧ Cond.code (ky k') (kb k') (mm_kl P k') none ∈ TB ∧ (parseMethodDescriptor (ky k').desc).map (fun d => d.parameters.length + 1) = some na) := by
  obtain ⟨p, pi, pa, pb, pcd⟩ := w
  unfold mm_mlc at h
  dsimp only at h
  split at h
  · exact absurd rfl h3
  · exact absurd rfl h4
  · simp only [Bool.and_eq_true] at h
    obtain ⟨⟨⟨⟨⟨⟨q1, q2⟩, q3⟩, q4⟩, q5⟩, q6⟩, q7⟩ := h
    have k1 : mm_kw P ky kb hs TB k' := by
      rcases Bool.or_eq_true _ _ |>.mp q1 with r | r
      · have r := of_decide_eq_true r
        exact Or.inl ⟨List.mem_of_getElem? r.1, r.2⟩
      · exact Or.inr (mm_nth r)
    have base : ∀ {A B C D E : Prop}, A → B → C → D → E → mm_kw P ky kb hs TB k' ∧ A ∧ Cond.initialized (ky k').cls ∈ TB ∧ ((ky k').cls ≠ "java/lang/invoke/MethodHandle" ∧ (ky k').cls ≠ "java/lang/invoke/VarHandle") ∧ plainFor (ky k') = true ∧ cn (mm_kc P k') = (ky k').cls ∧ (mm_ki P k' = true → (ky k').name = "<init>") ∧ B ∧ C ∧ D ∧ E :=
      fun a b c d e => ⟨k1, a, mm_nth q2, of_decide_eq_true q3, q4, of_decide_eq_true q5, of_decide_eq_true q6, b, c, d, e⟩
    split at q7
    · simp only [Bool.and_eq_true] at q7
      exact base (Or.inr (mm_nth q7.1.1)) (fun q => by omega) (fun _ => ⟨mm_nth q7.1.2, of_decide_eq_true q7.2⟩) (fun q => by omega) (fun q => by omega)
    · simp only [Bool.and_eq_true] at q7
      refine base (Or.inl rfl) (fun _ => ?_) (fun _ => ⟨mm_nth q7.1.2, of_decide_eq_true q7.2⟩) (fun q => by omega) (fun q => by omega)
      have q8 := q7.1.1
      split at q8
      · rename_i a j x host hp
        obtain ⟨r1, r2, r3⟩ := of_decide_eq_true q8
        subst r1; subst r2; subst r3
        exact ⟨host, List.mem_of_getElem? hp⟩
      · cases q8
    · simp only [Bool.and_eq_true] at q7
      obtain ⟨⟨⟨⟨r1, r2⟩, r3⟩, r4⟩, r5⟩ := q7
      refine base (Or.inr (mm_nth r1)) (fun q => by omega) (fun q => by omega) (fun _ => ⟨mm_nth r2, mm_nth r3, of_decide_eq_true r4, ?_⟩) (fun q => by omega)
      split at r5
      · rename_i C T N hc
        exact ⟨T, N, by rw [hc, of_decide_eq_true r5]⟩
      · cases r5
    · simp only [Bool.and_eq_true] at q7
      obtain ⟨⟨⟨⟨⟨r1, r2⟩, r3⟩, r4⟩, r5⟩, r6⟩ := q7
      exact base (Or.inr (mm_nth r1)) (fun q => by omega) (fun q => by omega) (fun q => by omega) (fun _ => ⟨mm_nth r2, of_decide_eq_true r3, of_decide_eq_true r4, mm_nth r5, of_decide_eq_true r6⟩)
    · cases q7
/-- a throw's row -/
def mm_xtc (TB : List Cond) (SB : List (String × Nat × String)) (cl : List vw_C) (cn : Nat → String) (kb : Nat → ByteArray) (kc : Nat → Nat) (hs : Nat → List (Nat × Nat × Nat × Nat)) (names : List String) (k pc : Nat) (v : Nat × (Nat × Nat × Nat × String) × Nat × Nat × Nat) : Bool := match v with
  | (ci, (i, si, ic, tx), p1, p2, p3) => match cl[ci]? with
    | some (X, _, 0) => decide (ci = 13 ∨ ci = 14) && (hs k).all (fun x => decide (¬ (x.1 ≤ pc + 9 ∧ pc + 9 < x.2.1))) && decide (decode (kb k) pc = .ok (.new i, 3)) && decide (decode (kb k) (pc + 3) = .ok (.dup, 1)) && decide (decode (kb k) (pc + 4) = .ok (.ldc si, 2)) && decide (decode (kb k) (pc + 6) = .ok (.invokespecial ic, 3)) && decide (decode (kb k) (pc + 9) = .ok (.athrow, 1))
      && decide (TB[p1]? = some (Cond.classLink (cn (kc k)) i X)) && decide (TB[p2]? = some (Cond.instantiable X 6)) && decide (TB[p3]? = some (Cond.initialized X)) && decide ((cn (kc k), si, tx) ∈ SB) && Bundle.fit X
    | _ => false

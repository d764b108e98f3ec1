/-! AN EXCEPTION IS CAUGHT, its class's entry resolved before or not. -/
section MmCatch
variable {e : Env} {f : JFrame} {a : Addr}
theorem mm_go_class {E : CtlPost} {d : Bool} {acts : List Action} {s : State} {Q : Handler → Pre} {x : ExceptionTableEntry} {t : List ExceptionTableEntry} {c : ClassId} {vm' : Vm} {cell : Cell} (hx : covers x f.pc = true) (h0 : x.catchType ≠ 0)
    (hg : (Jvm.resolveClass f.method.cls x.catchType).Gives e.toSetting s.vm (.ok c) vm') (hsz : vm'.classes.size ≤ s.vm.classes.size) (hcell : s.heap[a]? = some cell) (hobj : ∀ k, cell.vm ≠ .statics k) (hk : ∃ k, vm'.classes[cell.cls]? = some k) (hc : ∃ k, vm'.classes[c]? = some k) :
    wp (findHandler.go f a (x :: t)) Q E e d acts s ↔ if vm'.assignable cell.cls c = true then Q (.found x.handlerPc) d acts (s.setVm vm') else wp (findHandler.go f a t) Q E e d acts (s.setVm vm') := by
  simp only [covers] at hx
  obtain ⟨ha, ht⟩ := hg.op (op := VmOp.resolveClass f.method.cls x.catchType) rfl
  cases hfit : vm'.assignable cell.cls c <;> simp [findHandler.go, hx, h0, ha, ht, hsz, hcell, hobj, hk, hc, hfit, VmOp.dirties, VmOp.acts]
theorem mm_step_catch {s : State} {r : List Frame} {pc : Nat} {vm' : Vm} (hfind : ∀ (Q : Handler → Pre) (E : CtlPost) (d : Bool) (acts : List Action), wp (findHandler f a) Q E e d acts s ↔ Q (.found pc) d acts (s.setVm vm')) :
    (stepThrowing e s a (.java f :: r)).Is ((s.setVm vm').setFrames (.java { f with pc := pc, stack := [.ref a] } :: r)) [] := by
  simp only [stepThrowing, searchFrame, vmDo]
  generalize hr : Sem.go _ e false [] s = res
  obtain ⟨as, rfl, ha⟩ := Sem.eq_ok_of hr (a := Handler.found pc) (s' := s.setVm vm') (acts' := []) (by simp [hfind _ _ _ _])
  exact ⟨rfl, ha⟩
/-- the first row of a table that covers pc and whose class is ci's; rows of other classes are passed by -/
def mm_hit (cc : Nat → Option Nat) (pc ci : Nat) : List (Nat × Nat × Nat × Nat) → Option Nat
  | [] => none
  | x :: r => if x.1 ≤ pc ∧ pc < x.2.1 then (match cc x.2.2.2 with
    | some cj => if cj = ci then some x.2.2.1 else mm_hit cc pc ci r
    | none => none) else mm_hit cc pc ci r
theorem mm_finds {s0 : State} {cc : Nat → Option Nat} {dC : Nat → ClassId} {ci : Nat} {pcH : Nat} {cell : Cell} (hpl : e.platform.magicAccessors = ({} : Platform).magicAccessors)
    (hcc : ∀ ct cj, cc ct = some cj → ct ≠ 0 ∧ s0.vm.ClassLinks e.platform f.method.cls ct (dC cj) ∧ (∃ k, s0.vm.classes[dC cj]? = some k) ∧ (s0.vm.assignable (dC ci) (dC cj) = true ↔ cj = ci)) (hcls : cell.cls = dC ci) (hci : ∃ k, s0.vm.classes[dC ci]? = some k) (hobj : ∀ k, cell.vm ≠ .statics k) :
    ∀ (hs : List ExceptionTableEntry) (s : State), s0.WarmedH s.vm → s.heap[a]? = some cell → mm_hit cc f.pc ci (hs.map (fun h => (h.startPc, h.endPc, h.handlerPc, h.catchType))) = some pcH →
      ∃ vm', s0.WarmedH vm' ∧ ∀ (Q : Handler → Pre) (E : CtlPost) (d : Bool) (acts : List Action), wp (findHandler.go f a hs) Q E e d acts s ↔ Q (.found pcH) d acts (s.setVm vm')
  | [], s, _, _, h => by simp [mm_hit] at h
  | x :: t, s, hW, hcell, h => by
    simp only [List.map_cons, mm_hit] at h
    by_cases hx : x.startPc ≤ f.pc ∧ f.pc < x.endPc
    · rw [if_pos hx] at h
      have hcov : covers x f.pc = true := by simp [covers, hx.1, hx.2]
      cases hcj : cc x.catchType with
      | none => rw [hcj] at h; cases h
      | some cj =>
        rw [hcj] at h
        dsimp only at h
        obtain ⟨h0, hl, hkj, has⟩ := hcc _ _ hcj
        obtain ⟨hg, hW1, hr1⟩ := State.classEntry (e := e) hW hl
        have hsz : (s.vm.noted f.method.cls x.catchType (.cls (dC cj))).classes.size ≤ s.vm.classes.size := by no_record
        generalize s.vm.noted f.method.cls x.catchType (.cls (dC cj)) = vm1 at hg hW1 hr1 hsz
        obtain ⟨k1, hk1⟩ := hci
        obtain ⟨k2, hk2⟩ := hkj
        obtain ⟨k1', hk1', -⟩ := hW1.alike.2.2 _ _ hk1
        obtain ⟨k2', hk2', -⟩ := hW1.alike.2.2 _ _ hk2
        have hgo := fun (Q : Handler → Pre) (E : CtlPost) (d : Bool) (acts : List Action) => mm_go_class (Q := Q) (E := E) (d := d) (acts := acts) (t := t) hcov h0 hg hsz hcell hobj ⟨k1', by rw [hcls]; exact hk1'⟩ ⟨k2', hk2'⟩
        have hasg : vm1.assignable cell.cls (dC cj) = s0.vm.assignable (dC ci) (dC cj) := by rw [hcls]; exact hW1.alike.assignable _ _
        by_cases hj : cj = ci
        · rw [if_pos hj] at h
          cases h
          refine ⟨vm1, hW1, fun Q E d acts => (hgo Q E d acts).trans ?_⟩
          rw [if_pos (by rw [hasg]; exact has.mpr hj)]
        · simp only [if_neg hj] at h
          obtain ⟨vm2, hW2, hq⟩ := mm_finds hpl hcc hcls ⟨k1, hk1⟩ hobj t (s.setVm vm1) hW1 hcell h
          refine ⟨vm2, hW2, fun Q E d acts => (hgo Q E d acts).trans ?_⟩
          rw [if_neg (by rw [hasg]; exact fun q => hj (has.mp q))]
          exact hq Q E d acts
    · rw [if_neg hx] at h
      obtain ⟨vm2, hW2, hq⟩ := mm_finds hpl hcc hcls hci hobj t s hW hcell h
      refine ⟨vm2, hW2, fun Q E d acts => ?_⟩
      rw [W.findHandler_go_skip (by simp only [covers]; by_cases q1 : x.startPc ≤ f.pc <;> by_cases q2 : f.pc < x.endPc <;> simp [q1, q2]; exact hx ⟨q1, q2⟩)]
      exact hq Q E d acts
end MmCatch
section MmCatchAt
variable {p : Program} {l : Launch} {e : Env} {R : Room} {s : State} {m : MethodId} {args : Array Value} {below : List Frame} {meth : Method} {c : Code} {T : State} {locs : List Loc} {cells slots : Nat}
theorem mm_caught (X : Stand p l e R s m args below meth c T locs cells slots) {a : Addr} {g : JFrame} (hg : g.method = m) {cc : Nat → Option Nat} {dC : Nat → ClassId} {ci pcH : Nat} {cell : Cell} (hcell : T.heap[a]? = some cell) (hcls : cell.cls = dC ci) (hobj : ∀ k, cell.vm ≠ .statics k) (hci : ∃ k, s.vm.classes[dC ci]? = some k)
    (hcc : ∀ ct cj, cc ct = some cj → ct ≠ 0 ∧ s.vm.ClassLinks e.platform m.cls ct (dC cj) ∧ (∃ k, s.vm.classes[dC cj]? = some k) ∧ (s.vm.assignable (dC ci) (dC cj) = true ↔ cj = ci)) (hhit : mm_hit cc g.pc ci (c.exceptionTable.toList.map (fun h => (h.startPc, h.endPc, h.handlerPc, h.catchType))) = some pcH) :
    ∃ vm', Stand p l e R s m args below meth c (T.setVm vm') locs cells slots ∧ ∀ target, Steps p.tables e below ((T.setVm vm').setTop { g with pc := pcH, stack := [.ref a] }) target → Steps p.tables e below ((T.setTop g).pushFrame (.throwing a)) target := by
  have hpl : e.platform.magicAccessors = ({} : Platform).magicAccessors := by rw [X.admits.platform]
  subst hg
  have hvm : ((T.setTop g).pushFrame (.throwing a)).vm = T.vm := Stand.throwing_vm T g a
  have hhp : ((T.setTop g).pushFrame (.throwing a)).heap = T.heap := Stand.throwing_heap T g a
  obtain ⟨vm', hW', hq⟩ := mm_finds (f := g) (a := a) hpl hcc hcls hci hobj c.exceptionTable.toList ((T.setTop g).pushFrame (.throwing a)) (by rw [hvm]; exact X.warmed) (by rw [hhp]; exact hcell) hhit
  refine ⟨vm', X.noted hW', fun target hrest => ?_⟩
  have h := X.here
  obtain ⟨hgo, hw⟩ := h.throwing (g := g) a
  refine Steps.head hgo hw ?_
  have hfind : ∀ (Q : Handler → Pre) (E : CtlPost) (d : Bool) (acts : List Action), wp (findHandler g a) Q E e d acts ((T.setTop g).pushFrame (.throwing a)) ↔ Q (.found pcH) d acts (((T.setTop g).pushFrame (.throwing a)).setVm vm') := fun Q E d acts => by
    rw [W.findHandler_eq (meth := meth) (code := c) (by rw [hvm]; exact X.method') X.code]
    exact hq Q E d acts
  rw [stepThread_throwing (frames_entered h.top _), (mm_step_catch (s := (T.setTop g).pushFrame (.throwing a)) hfind).1]
  obtain ⟨g₀, hg0⟩ := Option.isSome_iff_exists.mp h.top
  obtain ⟨r, hr⟩ := State.topJava?_eq_some.mp hg0
  have hr' : (T.setVm vm').frames = .java g₀ :: r := hr
  rw [State.setTop_of_frames _ hr'] at hrest
  have hst : (((T.setTop g).pushFrame (.throwing a)).setVm vm').setFrames (.java { g with pc := pcH, stack := [.ref a] } :: T.frames.tail) = (T.setVm vm').setFrames (.java { g with pc := pcH, stack := [.ref a] } :: r) := by
    have hcomm : ∀ (B : State) (x : List Frame), (B.setFrames x).setVm vm' = (B.setVm vm').setFrames x := fun _ _ => rfl
    rw [hr, State.setTop_of_frames _ hr, State.pushFrame, hcomm, hcomm, State.setFrames_setFrames, State.setFrames_setFrames]
    rfl
  rw [hst]
  exact hrest
end MmCatchAt

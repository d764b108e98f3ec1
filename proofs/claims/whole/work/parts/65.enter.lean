/-! INTO A CALL AND OUT OF IT. -/
def mm_out (b : Nat → Nat) (z : Nat) (xX : Nat → Prop) (g : List va_E) (oc : mm_O) (o : Outcome) : Prop := match oc with
  | .inl v => o = .returned (v.map (mm_v (mm_A b z)))
  | .inr x => o = .threw (mm_A b z x.2) ∧ xX x.1 ∧ ∃ q, x.2 = q + 1 ∧ g[q]? = some (.inr (x.1, []))
def mm_end (P : mm_P) (D : va_G) (cl : List vw_C) (cT : Nat → Nat) (b : Nat → Nat) (z : Nat) (eX : Nat → Nat × (Nat → Int32)) (xX : Nat → Prop) (s : State) (below : List Frame) (gl0 sl0 : Nat) (Q : mm_K) : State → Prop := fun t =>
  ∃ (o : Outcome) (oc : mm_O) (g' : List va_E) (sl' : Nat) (lc : List Loc) (ce ss : Nat), t.status = .running ∧ Ended t below o ∧ s.WarmedH t.vm ∧ s.sameButNew ({ t with vm := s.vm } : State) lc ce ss ∧ mm_R D cl cT b z eX s g' t.heap lc ∧ mm_cnt P gl0 sl0 ce ss g' sl' ∧ Q oc g' sl' ∧ mm_out b z xX g' oc o
theorem mm_args (A : Nat → Nat) : ∀ (as : List Value) (i : Nat), lv_args i (mm_S A as) = mm_L A (lv_args i as)
  | [], i => rfl
  | v :: r, i => by
    have := mm_args A r (if v.category = 2 then i + 2 else i + 1)
    simp only [mm_S, List.map_cons, lv_args, mm_cat, mm_L] at this ⊢
    rw [this]
theorem mm_slots (A : Nat → Nat) : ∀ (as : List Value), (lg_sl (mm_S A as)).length = mm_cats as
  | [] => rfl
  | v :: r => by
    have := mm_slots A r
    simp only [mm_S, List.map_cons, lg_sl, List.flatMap_cons, List.length_append, mm_cats, List.sum_cons, mm_cat] at this ⊢
    rw [this]
    rcases lv_cat v with h | h <;> simp [h]
theorem mm_R.start {D : va_G} {cl : List vw_C} {cT : Nat → Nat} {b : Nat → Nat} {z : Nat} {eX : Nat → Nat × (Nat → Int32)} {s s' : State} {g : List va_E} {H : Heap} {locs : List Loc} (r : mm_R D cl cT b z eX s g H locs) (hH : s'.heap = H) (hvm : s.vm.Alike s'.vm) : mm_R D cl cT b z eX s' g H [] := by
  obtain ⟨h1, h2, h3, h4, h5, h6⟩ := id r
  refine ⟨h1, h2, by rw [hH]; exact va_S.rf, ?_, h5, by rw [hH]; omega⟩
  rw [hH]
  exact va_X.moved hvm r.X
theorem mm_R.after {D : va_G} {cl : List vw_C} {cT : Nat → Nat} {b : Nat → Nat} {z : Nat} {eX : Nat → Nat × (Nat → Int32)} {s s' : State} {g g' : List va_E} {H H' : Heap} {locs lc : List Loc} (r : mm_R D cl cT b z eX s g H locs) (hH : s'.heap = H) (r' : mm_R D cl cT b z eX s' g' H' lc) : mm_R D cl cT b z eX s g' H' (locs ++ lc) := by
  obtain ⟨h1, h2, h3, h4, h5, h6⟩ := r
  obtain ⟨k1, k2, k3, k4, k5, k6⟩ := r'
  rw [hH] at k3
  refine ⟨k1, k2, ⟨Nat.le_trans h3.1 k3.1, fun q hq hn => ?_, fun l hl => ?_⟩, h4, k5, h6⟩
  · rw [k3.2.1 q (by have := h3.1; omega) hn]
    exact h3.2.1 q hq hn
  · rcases List.mem_append.mp hl with q | q
    · exact h3.2.2 l q
    · exact k3.2.2 l q
section MmEnter
variable {p : Program} {l : Launch} {e : Env} {R : Room} {s : State} {m : MethodId} {args : Array Value} {below : List Frame} {meth : Method} {c : Code} {T : State} {locs : List Loc} {cells slots : Nat} {D : va_G} {cl : List vw_C} {cT : Nat → Nat} {b : Nat → Nat} {z : Nat} {eX : Nat → Nat × (Nat → Int32)} {P : mm_P} {gl0 sl0 sl : Nat} {xX : Nat → Prop} {gq : List va_E}
theorem mm_enter (X : Stand p l e R s m args below meth c T locs cells slots) {g : JFrame} (hg : g.method = m) (hsize : g.locals.size = c.maxLocals) {ig : Instr} (hdg : decode c.code g.pc = .ok (ig, 3)) (hmr : g.monitorRoom = 0)
    {mk : MethodId} {methk : Method} {ck : Code} (as : List Value) (hmk : T.vm.method? mk = some methk) (hck : methk.code = some ck) (hlk : methk.locks = false) (hpk : T.plainMethod mk) {R' : Room} (hframes : R'.frames + 1 ≤ R.frames) (hlocals : (g.stack.map fun v => v.category).sum + (ck.maxLocals + 11) + R'.locals ≤ R.locals) (hcells : cells + R'.cells ≤ R.cells) (hslots : slots + R'.slots ≤ R.slots)
    (hR : mm_R D cl cT b z eX s gq T.heap locs) (hcat : mm_cats as ≤ ck.maxLocals) {Q' : mm_K} (hcnt : mm_cnt P gl0 sl0 cells slots gq sl)
    (hW : ∀ L, lv_has L ck.maxLocals (mm_L (mm_A b z) (lv_args 0 as)) → mm_R D cl cT b z eX (T.calling g mk (mm_S (mm_A b z) as).toArray) gq T.heap [] → W p l e R' (T.calling g mk (mm_S (mm_A b z) as).toArray) mk (mm_S (mm_A b z) as).toArray (.java g :: below) methk ck T.heap [] 0 0 (mm_end P D cl cT b z eX xX (T.calling g mk (mm_S (mm_A b z) as).toArray) (.java g :: below) gq.length sl Q') (F0 mk 0 L [])) :
    ∃ (oc : mm_O) (g' : List va_E) (sl' : Nat) (T' : State) (lc : List Loc) (ce ss : Nat), Stand p l e R s m args below meth c T' (locs ++ lc) (cells + ce) (slots + ss) ∧ mm_R D cl cT b z eX s g' T'.heap (locs ++ lc) ∧ mm_cnt P gl0 sl0 (cells + ce) (slots + ss) g' sl' ∧ Q' oc g' sl' ∧
      match oc with
      | .inl v => ∀ acts, Steps p.tables e below (doInvoke e (T.setTop g) acts mk (mm_S (mm_A b z) as).toArray).1 (T'.setTop { g with pc := g.pc + 3, stack := (v.map (mm_v (mm_A b z))).toList ++ g.stack })
      | .inr x => xX x.1 ∧ (∃ q, x.2 = q + 1 ∧ g'[q]? = some (.inr (x.1, []))) ∧ ∀ acts, Steps p.tables e below (doInvoke e (T.setTop g) acts mk (mm_S (mm_A b z) as).toArray).1 ((T'.setTop g).pushFrame (.throwing (mm_A b z x.2))) := by
  obtain ⟨Y, hin⟩ := X.into hg hsize hdg (mm_S (mm_A b z) as).toArray (R' := R') hmk hck hlk hpk hframes (by rw [hmr]; omega) hcells hslots
  have hl := lv_entry (mm_S (mm_A b z) as) (n := ck.maxLocals) (by rw [mm_slots]; exact hcat)
  rw [mm_args] at hl
  rw [lg_entry_eq] at Y hin
  generalize (lg_sl (mm_S (mm_A b z) as) ++ List.replicate (ck.maxLocals - (lg_sl (mm_S (mm_A b z) as)).length) Slot.unset).toArray = L at hl Y hin
  have hheap : (T.calling g mk (mm_S (mm_A b z) as).toArray).heap = T.heap := by
    simp [State.calling, State.pushFrame, State.setFrames, State.setTop, State.modifyTopJava]
  have hvm : (T.calling g mk (mm_S (mm_A b z) as).toArray).vm = T.vm := by
    simp [State.calling, State.pushFrame, State.setFrames, State.setTop, State.modifyTopJava]
  have hUh : ((T.setTop g).pushFrame (.java (F0 mk 0 L []))).heap = T.heap := by
    simp [State.pushFrame, State.setFrames, State.setTop, State.modifyTopJava]
  have hal : s.vm.Alike (T.calling g mk (mm_S (mm_A b z) as).toArray).vm := by rw [hvm]; exact X.warmed.alike
  obtain ⟨t, hst, o, oc, g', sl', lc, ce, ss, -, hended, hWe, hsame, hR', hcnt', hQ, hout⟩ := hW L hl (hR.start hheap hal) _ hUh Y
  have hRa := hR.after hheap hR'
  obtain ⟨c1, c2, c3, c4⟩ := hcnt
  obtain ⟨d1, d2, d3, d4⟩ := hcnt'
  have hcn : mm_cnt P gl0 sl0 (cells + ce) (slots + ss) g' sl' := ⟨by omega, by omega, d3, d4⟩
  have hst := Steps.weaken (mid := [.java g]) hst
  cases oc with
  | inl v =>
    have ho : o = .returned (v.map (mm_v (mm_A b z))) := hout
    subst ho
    obtain ⟨T', X', -, -, ht⟩ := X.outOf hg hdg hended hWe hsame
    have hh : T'.heap = t.heap := by rw [ht]; simp [State.setTop, State.modifyTopJava]
    refine ⟨.inl v, g', sl', T', lc, ce, ss, X', by rw [hh]; exact hRa, hcn, hQ, fun acts => ?_⟩
    rw [hin acts, ← ht]
    exact hst
  | inr x =>
    obtain ⟨ho, hx, hq⟩ : o = .threw (mm_A b z x.2) ∧ xX x.1 ∧ ∃ q, x.2 = q + 1 ∧ g'[q]? = some (.inr (x.1, [])) := hout
    subst ho
    obtain ⟨T', X', -, -, ht⟩ := X.outOfThrown hg hended hWe hsame
    have hh : T'.heap = t.heap := by rw [ht, Stand.throwing_heap]
    refine ⟨.inr x, g', sl', T', lc, ce, ss, X', by rw [hh]; exact hRa, hcn, hQ, hx, hq, fun acts => ?_⟩
    rw [hin acts, ← ht]
    exact hst
end MmEnter

section MmThrow
variable {p : Program} {l : Launch} {e : Env} {R : Room} {s : State} {m : MethodId} {args : Array Value} {below : List Frame} {meth : Method} {c : Code} {H : Heap} {locs : List Loc} {cells slots : Nat} {D : va_G} {cl : List vw_C} {cT : Nat → Nat} {b : Nat → Nat} {z : Nat} {eX : Nat → Nat × (Nat → Int32)} {P : mm_P} {gl0 sl0 sl : Nat} {xX : Nat → Prop} {g : List va_E}
variable {TB : List Cond} {SB : List (String × Nat × String)} {tyl : List FieldType} {cn : Nat → String} {ky : Nat → MethodName} {kb : Nat → ByteArray} {hs : Nat → List (Nat × Nat × Nat × Nat)} {xc : Nat → Nat → Option Nat} {s0 : State} {a0 : Array Value} {k pc ci : Nat} {L : Array Slot} {st : List Value} {Q : mm_K} {ls : List (Nat × Value)}
theorem mm_statics {s : State} {D : va_G} {cl : List vw_C} {cT : Nat → Nat} {b : Nat → Nat} {z : Nat} {eX : Nat → Nat × (Nat → Int32)} {g : List va_E} {H : Heap} {locs : List Loc} (r : mm_R D cl cT b z eX s g H locs) (g0 : List va_E) (hs : va_P D cl (mm_W (mm_A b z) cT 0 g0) s.heap) (hz : s.heap.size = z + g0.length) : ∀ x ∈ locs, ∀ cell, s.heap[x.base]? = some cell → cell.vm.isStatics = false := by
  intro x hx cell hc
  have h1 := r.2.2.1.2.2 x hx
  have h2 := (Array.getElem?_eq_some_iff.mp hc).1
  obtain ⟨i, hi⟩ : ∃ i, x.base = z + i := ⟨x.base - z, (Nat.add_sub_cancel' (h1 : z ≤ x.base)).symm⟩
  have hlt : i < g0.length := by
    have h4 : z + i < z + g0.length := by rw [← hi, ← hz]; exact h2
    exact Nat.lt_of_add_lt_add_left h4
  have h3 := hs i _ (by rw [mm_W_get, List.getElem?_eq_getElem hlt]; rfl)
  have hA : mm_A b z (0 + i + 1) = x.base := by
    have hb1 := r.2.2.2.2.1.2
    have hb2 := r.1
    have hb3 := r.2.2.1.1
    have hb4 : 0 + i < 1000000 := by
      rw [Nat.zero_add]
      exact Nat.lt_of_lt_of_le hlt (by omega)
    rw [hi, mm_A_of hb4]
    omega
  rw [hA] at h3
  cases he : g0[i] with
  | inl q =>
    obtain ⟨t, a⟩ := q
    rw [he] at h3
    have h3 : s.heap[x.base]? = some (vp_cell (cT t) (mm_a (mm_A b z) a)) := h3
    rw [hc] at h3
    cases h3
    obtain ⟨n, f | f | f | f | f⟩ := a <;> rfl
  | inr q =>
    obtain ⟨cj, fs⟩ := q
    rw [he] at h3
    obtain ⟨rr, -, cell', q1, q2, q3, -⟩ := h3
    have q1 : s.heap[x.base]? = some cell' := q1
    rw [hc] at q1
    cases q1
    rw [q3]; rfl
set_option maxHeartbeats 1000000 in
theorem mm_throw_ok (hE : mm_CM P ≤ 1000000) (ok : mm_ok3 P TB SB cl cn ky kb hs xc xX) (h0 : mm_s0 TB SB cl tyl D cT xX a0 s0) (htr : e.platform.stackTraces = false) (C : mm_C P cn kb hs s0 z k p s m meth c) (hR : mm_R D cl cT b z eX s g H locs) (g0 : List va_E) (hg0 : va_P D cl (mm_W (mm_A b z) cT 0 g0) s.heap) (hz0 : s.heap.size = z + g0.length) (hl : lv_has L (mm_kl P k) (mm_L (mm_A b z) ls))
    (hx : mm_xt P k pc = some ci) (hroom : g.length + 1 ≤ mm_CM P ∧ sl + 6 ≤ mm_SM P ∧ mm_cats st ≤ 8) (hQ : Q (.inr (ci, g.length + 1)) (g ++ [.inr (ci, [])]) (sl + 6)) (hcnt : mm_cnt P gl0 sl0 cells slots g sl) (hCM : mm_CM P ≤ R.cells + gl0) (hSM : mm_SM P ≤ R.slots + sl0) (hfr : 8 ≤ R.frames) (hlo : 200 ≤ R.locals) :
    W p l e R s m args below meth c H locs cells slots (mm_end P D cl cT b z eX xX s below gl0 sl0 Q) (F0 m pc L (mm_S (mm_A b z) st)) := by
  obtain ⟨hexec, hb, hml, hrt, hlocks, hown, hname, hhs, B⟩ := C
  obtain ⟨g1, g2, ⟨g3, g4, g5, g6⟩, g7, g8⟩ := h0
  have hts : ∀ w ∈ TB, w.before args s = true := fun w hw => B.word (g1 w hw).1 (g1 w hw).2
  obtain ⟨-, -, -, -, -, okX, -, -⟩ := ok
  obtain ⟨hxX, hnot, X, T, i, si, ic, tx, names, hc, d0, d3, d4, d6, d9, w1, w2, w3, w4, w5, w6, w7, w8⟩ := okX _ _ _ hx
  obtain ⟨c1, c2, c3, c4⟩ := hcnt
  have hKn := (va_K.moved B.1.alike g7).1 ci _ hc
  have hA : mm_A b z (g.length + 1) = H.size := by rw [hR.1, mm_A_of (by omega)]
  have hown8 : ∀ w ∈ Bundle.ownAtoms (cn (mm_kc P k)) ic X names, w.before args s = true := by
    intro w hw
    rcases w8 w hw with h | h | h
    · exact hts w h
    · rw [h]; exact B.isRefStatic g3 g4
    · rw [h]; exact B.isRefStatic g5 g6
  refine W.newcK hexec hb hown (hts _ w1) (hts _ w2) (hts _ w3) rfl d0 (by omega) (by omega) hKn.2.1 rfl fun H1 kC hkC e1 z1 o1 => ?_
  have hR1 : mm_R D cl cT b z eX s (g ++ [.inr (ci, [])]) H1 locs := hR.push ⟨_, hc, _, e1, rfl, rfl, fun j hj => absurd hj (Nat.not_lt_zero j)⟩ z1 o1 (by omega)
  refine lv_dup hexec hb d3 rfl ?_
  obtain ⟨sa, hsa⟩ := B.string (g2 _ w4)
  refine va_ldcS hexec hb hown hsa d4 ?_
  intro T1 hT1 X1
  have hsz : H.size < H1.size := by omega
  obtain ⟨vm', ce, lc, k1, k2, k3, X2, st2⟩ := mm_made X1 hexec htr hown w5 w6 hown8 (mm_statics hR g0 hg0 hz0) (a := H.size) hKn.2.1 hkC (by rw [hT1]; exact e1) (by have := hR.2.2.1.1; exact this) (msg := .ref sa) rfl (g := F0 m (pc + 3 + 1 + 2) L (.ref sa :: .ref H.size :: .ref H.size :: mm_S (mm_A b z) st)) rfl (by rw [hml]; exact hl.1) rfl (by rw [hb]; exact d6) (by rw [w7]; omega)
    (by rw [w7]; show 2 * 0 + (1 + ((mm_S (mm_A b z) st).map fun v => v.category).sum) + _ ≤ _; rw [mm_cats_S]; omega)
  have hnocov : ∀ x ∈ c.exceptionTable.toList, covers x (pc + 9) = false := by
    intro x hx'
    have hm : (x.startPc, x.endPc, x.handlerPc, x.catchType) ∈ hs k := by rw [← hhs]; exact List.mem_map.mpr ⟨x, hx', rfl⟩
    have := hnot _ hm
    simp only [covers]
    by_cases q1 : x.startPc ≤ pc + 9 <;> by_cases q2 : pc + 9 < x.endPc <;> simp [q1, q2]
    exact this ⟨q1, q2⟩
  obtain ⟨hwalk, hrun, hended, hWU, hsame⟩ := X2.athrowLeaves hexec (g := F0 m (pc + 9) L (.ref H.size :: mm_S (mm_A b z) st)) rfl rfl rfl hnocov rfl (by rw [hb]; exact d9) hlocks
  refine ⟨_, st2 _ hwalk, .threw H.size, .inr (ci, g.length + 1), g ++ [.inr (ci, [])], sl + 6, locs ++ lc, cells + 1, slots + 6, hrun, hended, hWU, hsame, ?_, ⟨by rw [List.length_append]; show cells + 1 + gl0 = g.length + 1; omega, by omega, by rw [List.length_append]; show g.length + 1 ≤ _; omega, by omega⟩, hQ, by show Outcome.threw _ = .threw (mm_A b z (g.length + 1)); rw [hA], hxX, g.length, rfl, by simp⟩
  have hheap : (((T1.setVm vm').setCell H.size ce).setFrames (.throwing H.size :: below)).heap = H1.setIfInBounds H.size ce := by
    show ((T1.setVm vm').setCell H.size ce).heap = _
    simp [State.setCell, hT1]
  rw [hheap]
  have hq : (g ++ [Sum.inr (ci, [])] : List va_E)[g.length]? = some (.inr (ci, [])) := by simp
  obtain ⟨r1, r2, r3, r4, r5, r6⟩ := hR1
  have hD : va_D (fun q => z ≤ q) (mm_W (mm_A b z) cT 0 (g ++ [.inr (ci, [])])) := mm_R.D ⟨r1, r2, r3, r4, r5, r6⟩
  have hp : (mm_W (mm_A b z) cT 0 (g ++ [Sum.inr (ci, [])]))[g.length]? = some (H.size, .inr (ci, [])) := by
    rw [mm_at ⟨r1, r2, r3, r4, r5, r6⟩ hq, hA]; rfl
  have hoq : ∀ x : Nat, x ≠ H.size → (H1.setIfInBounds H.size ce)[x]? = H1[x]? := fun x hx' => Array.getElem?_setIfInBounds_ne (fun q => hx' q.symm)
  have hP2 := r2.set hD hp (e := .inr (ci, [])) (H1 := H1.setIfInBounds H.size ce) ⟨_, hc, ce, by rw [Array.getElem?_setIfInBounds_self_of_lt hsz], k1, k2, fun j hj => absurd hj (Nat.not_lt_zero j)⟩ hoq
  have hset : (mm_W (mm_A b z) cT 0 (g ++ [Sum.inr (ci, [])])).set g.length (H.size, .inr (ci, [])) = mm_W (mm_A b z) cT 0 (g ++ [.inr (ci, [])]) := by
    apply List.ext_getElem?
    intro j
    by_cases hj : g.length = j
    · subst hj
      rw [List.getElem?_set_self (by have := (List.getElem?_eq_some_iff.mp hp).1; exact this), hp]
    · rw [List.getElem?_set_ne hj]
  rw [hset] at hP2
  refine ⟨by rw [Array.size_setIfInBounds]; exact r1, hP2, ⟨by rw [Array.size_setIfInBounds]; exact r3.1, fun q hq1 hq2 => ?_, fun x hx' => ?_⟩, r4, r5, r6⟩
  · rw [hoq q (fun h => hq2 (by show z ≤ q; rw [h, hR.1]; omega))]
    exact r3.2.1 q hq1 hq2
  · rcases List.mem_append.mp hx' with q | q
    · exact r3.2.2 x q
    · show z ≤ x.base
      rw [k3 x q, hR.1]; omega
end MmThrow

section MmCalls
variable {p : Program} {l : Launch} {e : Env} {R : Room} {s : State} {m : MethodId} {args : Array Value} {below : List Frame} {meth : Method} {c : Code} {H : Heap} {locs : List Loc} {cells slots : Nat} {D : va_G} {cl : List vw_C} {cT : Nat → Nat} {b : Nat → Nat} {z : Nat} {eX : Nat → Nat × (Nat → Int32)} {P : mm_P} {gl0 sl0 sl : Nat} {xX : Nat → Prop} {g : List va_E}
variable {TB : List Cond} {SB : List (String × Nat × String)} {tyl : List FieldType} {cn : Nat → String} {ky : Nat → MethodName} {kb : Nat → ByteArray} {hs : Nat → List (Nat × Nat × Nat × Nat)} {xc : Nat → Nat → Option Nat} {s0 : State} {a0 : Array Value} {k pc : Nat} {L : Array Slot} {Q : mm_K} {ls : List (Nat × Value)}
/-- what is known of calls: they are sound, in so much room -/
def mm_HC (P : mm_P) (l : Launch) (D : va_G) (cl : List vw_C) (cT : Nat → Nat) (b : Nat → Nat) (z : Nat) (eX : Nat → Nat × (Nat → Int32)) (xX : Nat → Prop) (cn : Nat → String) (kb : Nat → ByteArray) (hs : Nat → List (Nat × Nat × Nat × Nat)) (s0 : State) (d : Nat) (call : mm_Call) : Prop :=
  ∀ k' as g sl Q', call k' as g sl Q' → ∀ {p : Program} {e : Env} {s : State} {m : MethodId} {args : Array Value} {below : List Frame} {meth : Method} {c : Code} {R : Room} {H : Heap} {L : Array Slot}, e.platform.stackTraces = false → mm_C P cn kb hs s0 z k' p s m meth c → s.heap = H → mm_R D cl cT b z eX s g H [] → lv_has L (mm_kl P k') (mm_L (mm_A b z) (lv_args 0 as)) → g.length ≤ mm_CM P → sl ≤ mm_SM P → mm_CM P ≤ R.cells + g.length → mm_SM P ≤ R.slots + sl → 8 + d ≤ R.frames → 200 + 64 * d ≤ R.locals →
    W p l e R s m args below meth c H [] 0 0 (mm_end P D cl cT b z eX xX s below g.length sl Q') (F0 m 0 L [])
set_option maxHeartbeats 1000000 in
/-- a call that stands: into the method, and on -/
theorem mm_go {d : Nat} {call : mm_Call} (HC : mm_HC P l D cl cT b z eX xX cn kb hs s0 d call) (ok : mm_ok3 P TB SB cl cn ky kb hs xc xX) (h0 : mm_s0 TB SB cl tyl D cT xX a0 s0) (htr : e.platform.stackTraces = false) (C : mm_C P cn kb hs s0 z k p s m meth c) {T : State} (X : Stand p l e R s m args below meth c T locs cells slots) (hR : mm_R D cl cT b z eX s g T.heap locs) (hl : lv_has L (mm_kl P k) (mm_L (mm_A b z) ls))
    (hcnt : mm_cnt P gl0 sl0 cells slots g sl) (hCM : mm_CM P ≤ R.cells + gl0) (hSM : mm_SM P ≤ R.slots + sl0) (hfr : 8 + (d + 1) ≤ R.frames) (hlo : 200 + 64 * (d + 1) ≤ R.locals)
    {k' : Nat} {as r : List Value} {ig : Instr} (hdg : decode c.code pc = .ok (ig, 3)) (hroom : mm_cats r + mm_kl P k' + 11 ≤ 64 ∧ mm_cats as ≤ mm_kl P k') (hkw : mm_kw P ky kb hs TB k') (hpf : plainFor (ky k') = true) (hcn : cn (mm_kc P k') = (ky k').cls) (hki : mm_ki P k' = true → (ky k').name = "<init>")
    {mk : MethodId} (hmk : s.methodNamed? (ky k') = some mk) {nx : Nat → List Value → List va_E → Nat → Prop} (hcall : call k' as g sl (mm_back P k nx Q pc r))
    (kk : ∀ pc' st' g' sl' H' locs' cells' slots', nx pc' st' g' sl' → mm_R D cl cT b z eX s g' H' locs' → mm_cnt P gl0 sl0 cells' slots' g' sl' → W p l e R s m args below meth c H' locs' cells' slots' (mm_end P D cl cT b z eX xX s below gl0 sl0 Q) (F0 m pc' L (mm_S (mm_A b z) st'))) :
    ∃ t, (∀ acts, Steps p.tables e below (doInvoke e (T.setTop (F0 m pc L (mm_S (mm_A b z) r))) acts mk (mm_S (mm_A b z) as).toArray).1 t) ∧ mm_end P D cl cT b z eX xX s below gl0 sl0 Q t := by
  obtain ⟨hexec, hb, hml, hrt, hlocks, hown, hname, hhs, B⟩ := C
  obtain ⟨g1, g2, -, g7, g8⟩ := h0
  have hts : ∀ w ∈ TB, w.before args s = true := fun w hw => B.word (g1 w hw).1 (g1 w hw).2
  obtain ⟨mk', methk, ck, hn, hm, hcode, hbytes, hmaxl, hret, hlk, hhsk, hsig⟩ := mm_kw_ok hts hkw
  cases Option.some.inj (hmk.symm.trans hn)
  have halT : s.vm.Alike T.vm := X.warmed.alike
  have hmkT : T.vm.method? mk = some methk := by rw [halT.method?]; exact hm
  have hnT : T.methodNamed? (ky k') = some mk := X.named hn
  have hpk : T.plainMethod mk := State.plainMethod.of_named hpf hnT hmkT
  obtain ⟨c1, c2, c3, c4⟩ := id hcnt
  obtain ⟨-, -, -, -, -, -, okH, okc⟩ := ok
  obtain ⟨oc, g', sl', T', lc, ce, ss, X', hR', hcnt', hQ', hfin⟩ := mm_enter (P := P) (gl0 := gl0) (sl0 := sl0) (xX := xX) X (g := F0 m pc L (mm_S (mm_A b z) r)) rfl (by rw [hml]; exact hl.1) hdg rfl as hmkT hcode hlk hpk (R' := { frames := R.frames - 1, cells := R.cells - cells, slots := R.slots - slots, locals := R.locals - 64 }) (by show R.frames - 1 + 1 ≤ R.frames; omega)
    (by show ((mm_S (mm_A b z) r).map fun v => v.category).sum + (ck.maxLocals + 11) + (R.locals - 64) ≤ R.locals; rw [mm_cats_S, hmaxl]; omega) (by show cells + (R.cells - cells) ≤ R.cells; omega) (by show slots + (R.slots - slots) ≤ R.slots; omega) hR (by rw [hmaxl]; exact hroom.2) (Q' := mm_back P k nx Q pc r) hcnt (by
      intro L' hl' hRs
      have hheap : (T.calling (F0 m pc L (mm_S (mm_A b z) r)) mk (mm_S (mm_A b z) as).toArray).heap = T.heap := by
        simp [State.calling, State.pushFrame, State.setFrames, State.setTop, State.modifyTopJava]
      have hvm : (T.calling (F0 m pc L (mm_S (mm_A b z) r)) mk (mm_S (mm_A b z) as).toArray).vm = T.vm := by
        simp [State.calling, State.pushFrame, State.setFrames, State.setTop, State.modifyTopJava]
      refine HC _ _ _ _ _ hcall htr ⟨hexec, hbytes, hmaxl, hret, hlk, ?_, fun q => ?_, hhsk, ?_⟩ hheap hRs (by rw [← hmaxl]; exact hl') c3 c4 (by show _ ≤ R.cells - cells + g.length; omega) (by show _ ≤ R.slots - slots + sl; omega) (by show 8 + d ≤ R.frames - 1; omega) (by show 200 + 64 * d ≤ R.locals - 64; omega)
      · rw [hcn, hvm, halT.findClass]; exact findClass_of_methodNamed hn
      · rw [(name_of_methodNamed hn hm).1]; exact hki q
      · refine ⟨by rw [hvm]; exact State.WarmedH.trans B.1 X.warmed, B.2.1, fun q hq => ?_⟩
        rw [hheap, hR.2.2.1.2.1 q (by have := hR.2.2.2.2.2; omega) (by omega)]
        exact B.2.2 q hq)
  cases oc with
  | inl v =>
    have hnx : nx (pc + 3) (v.toList ++ r) g' sl' := hQ'
    obtain ⟨t, hst, hend⟩ := kk _ _ _ _ _ _ _ _ hnx hR' hcnt' T' rfl X'
    refine ⟨t, fun acts => (hfin acts).trans ?_, hend⟩
    have : mm_S (mm_A b z) (v.toList ++ r) = (v.map (mm_v (mm_A b z))).toList ++ mm_S (mm_A b z) r := by cases v <;> simp [mm_S]
    rw [this] at hst
    exact hst
  | inr x =>
    obtain ⟨hx, ⟨q, hq1, hq2⟩, hst⟩ := hfin
    have hQ'' : (match mm_kh P k pc x.1 with
      | some h => h ≠ 999999 ∧ nx h [.ref x.2] g' sl'
      | none => Q (.inr x) g' sl') := hQ'
    cases hkh : mm_kh P k pc x.1 with
    | none =>
      rw [hkh] at hQ''
      have hout : ∀ y ∈ c.exceptionTable.toList, covers y pc = false := by
        intro y hy
        have hmem : (y.startPc, y.endPc, y.handlerPc, y.catchType) ∈ hs k := by rw [← hhs]; exact List.mem_map.mpr ⟨y, hy, rfl⟩
        have := (okH k pc x.1 hx).2 hkh _ hmem
        simp only [covers]
        by_cases q1 : y.startPc ≤ pc <;> by_cases q2 : pc < y.endPc <;> simp [q1, q2]
        exact this ⟨q1, q2⟩
      obtain ⟨hwalk, hrun, hended, hWU, hsame⟩ := X'.leaveThrown (mm_A b z x.2) (g := F0 m pc L (mm_S (mm_A b z) r)) rfl rfl rfl hout hlocks
      exact ⟨_, fun acts => (hst acts).trans hwalk, .threw (mm_A b z x.2), .inr x, g', sl', locs ++ lc, cells + ce, slots + ss, hrun, hended, hWU, hsame, hR', hcnt', hQ'', rfl, hx, q, hq1, hq2⟩
    | some h =>
      rw [hkh] at hQ''
      have hhit := (okH k pc x.1 hx).1 h hkh hQ''.1
      have hK := va_K.moved B.1.alike g7
      obtain ⟨rr, hrr, cell, e1, e2, e3, -⟩ := hR'.2.1 q _ (mm_at hR' hq2)
      rw [← hq1] at e1
      have hpl : e.platform.magicAccessors = ({} : Platform).magicAccessors := by rw [X.admits.platform]
      obtain ⟨vm', X3, st3⟩ := mm_caught X' (a := mm_A b z x.2) (g := F0 m pc L (mm_S (mm_A b z) r)) rfl (cc := xc k) (dC := D.1) (ci := x.1) (pcH := h) e1 e2 (fun k' hk' => by rw [e3] at hk'; cases hk') (by obtain ⟨-, -, kk', hkk, -⟩ := hK.1 x.1 _ hrr; exact ⟨kk', hkk⟩)
        (by
          intro ct cj hct
          obtain ⟨n1, n2, Xn, Tn, n3, n4⟩ := okc _ _ _ hct
          obtain ⟨-, hfc, kk', hkk, -⟩ := hK.1 cj _ n3
          obtain ⟨c', hc', hlk'⟩ := Cond.classLink_spec hown (hts _ n4) e.platform hpl
          cases Option.some.inj (hc'.symm.trans hfc)
          refine ⟨n1, hlk', ⟨kk', hkk⟩, ?_⟩
          rw [B.1.alike.assignable]
          exact g8 _ _ hx n2)
        (by rw [hhs]; exact hhit)
      obtain ⟨t, hst4, hend⟩ := kk _ _ _ _ _ _ _ _ hQ''.2 hR' hcnt' (T'.setVm vm') rfl X3
      exact ⟨t, fun acts => (hst acts).trans (st3 _ hst4), hend⟩
end MmCalls

/-! THE SMALL MACHINE TELLS THE TRUTH of the great one. -/
/-- the word of a method's code -/
def mm_kw (P : mm_P) (ky : Nat → MethodName) (kb : Nat → ByteArray) (hs : Nat → List (Nat × Nat × Nat × Nat)) (TB : List Cond) (k : Nat) : Prop :=
  (Cond.code (ky k) (kb k) (mm_kl P k) (mm_kr P k) ∈ TB ∧ hs k = []) ∨ Cond.codeWith (ky k) (kb k) (mm_kl P k) (mm_kr P k) (hs k) ∈ TB
/-- the tables tell the truth, so far as code, calls, throws and catches go -/
def mm_ok3 (P : mm_P) (TB : List Cond) (SB : List (String × Nat × String)) (cl : List vw_C) (cn : Nat → String) (ky : Nat → MethodName) (kb : Nat → ByteArray) (hs : Nat → List (Nat × Nat × Nat × Nat)) (xc : Nat → Nat → Option Nat) (xX : Nat → Prop) : Prop :=
  (∀ k q, q ∈ mm_kd P k → decode (kb k) q.1 = .ok (q.2, mm_ln q.2))
  ∧ (∀ k pc lo dt ts, mm_sw P k pc = some (lo, dt, ts) → ∃ (dflt : Int) (offs : Array Int) (len : Nat), decode (kb k) pc = .ok (.tableswitch dflt lo (lo + (ts.length : Int) - 1) offs, len) ∧ (pc : Int) + dflt = (dt : Int) ∧ ∀ i t : Nat, ts[i]? = some t → ∃ off, offs[i]? = some off ∧ (pc : Int) + off = (t : Int))
  ∧ (∀ o i k' na kd, mm_ml P o i = some (k', na, kd) → kd ≠ 3 → kd ≠ 4 → mm_kw P ky kb hs TB k' ∧ (kd = 5 ∨ Cond.methodLink (cn o) i (ky k') ∈ TB) ∧ Cond.initialized (ky k').cls ∈ TB ∧ ((ky k').cls ≠ "java/lang/invoke/MethodHandle" ∧ (ky k').cls ≠ "java/lang/invoke/VarHandle") ∧ plainFor (ky k') = true ∧ cn (mm_kc P k') = (ky k').cls ∧ (mm_ki P k' = true → (ky k').name = "<init>")
      ∧ (kd = 5 → ∃ host, Cond.methodLinkNest (cn o) i (ky k') host ∈ TB)
      ∧ (kd = 0 ∨ kd = 5 → Cond.static (ky k') ∈ TB ∧ (parseMethodDescriptor (ky k').desc).map (fun d => d.parameters.length) = some na)
      ∧ (kd = 1 → Cond.instanceMethod (ky k') ∈ TB ∧ Cond.selects (ky k').cls (ky k') (ky k') ∈ TB ∧ (parseMethodDescriptor (ky k').desc).map (fun d => d.parameters.length + 1) = some na ∧ ∃ T N, cl[mm_kc P k']? = some ((ky k').cls, T, N))
      ∧ (kd = 2 → Cond.instanceMethod (ky k') ∈ TB ∧ (ky k').name = "<init>" ∧ mm_kr P k' = none ∧ Cond.code (ky k') (kb k') (mm_kl P k') none ∈ TB ∧ (parseMethodDescriptor (ky k').desc).map (fun d => d.parameters.length + 1) = some na)
      ∧ (kd = 7 → Cond.instanceMethod (ky k') ∈ TB ∧ Cond.selects (ky k').cls (ky k') (ky k') ∈ TB ∧ (parseMethodDescriptor (ky k').desc).map (fun d => d.parameters.length + 1) = some na ∧ (ky k').cls = "java/lang/String"))
  ∧ (∀ o i k' na, mm_ml P o i = some (k', na, 3) → Cond.methodLink (cn o) i Lib.objectInit ∈ TB ∧ Cond.instanceMethod Lib.objectInit ∈ TB ∧ Cond.code Lib.objectInit ⟨#[0xb1]⟩ 1 none ∈ TB)
  ∧ (∀ o i k' na, mm_ml P o i = some (k', na, 4) → Cond.methodLink (cn o) i arraycopyName ∈ TB ∧ Cond.native arraycopyName ∈ TB ∧ Cond.static arraycopyName ∈ TB ∧ Cond.initialized "java/lang/System" ∈ TB)
  ∧ (∀ k pc ci, mm_xt P k pc = some ci → xX ci ∧ (∀ x ∈ hs k, ¬ (x.1 ≤ pc + 9 ∧ pc + 9 < x.2.1)) ∧ ∃ (X : String) (T : u_T) (i si ic : Nat) (tx : String) (names : List String), cl[ci]? = some (X, T, 0)
      ∧ decode (kb k) pc = .ok (.new i, 3) ∧ decode (kb k) (pc + 3) = .ok (.dup, 1) ∧ decode (kb k) (pc + 4) = .ok (.ldc si, 2) ∧ decode (kb k) (pc + 6) = .ok (.invokespecial ic, 3) ∧ decode (kb k) (pc + 9) = .ok (.athrow, 1)
      ∧ Cond.classLink (cn (mm_kc P k)) i X ∈ TB ∧ Cond.instantiable X 6 ∈ TB ∧ Cond.initialized X ∈ TB ∧ (cn (mm_kc P k), si, tx) ∈ SB ∧ Bundle.fit X = true ∧ (∀ n ∈ names, Bundle.fit n = true) ∧ names.length = 2
      ∧ ∀ w ∈ Bundle.ownAtoms (cn (mm_kc P k)) ic X names, w ∈ TB ∨ w = .isRef (.static Bundle.tN "UNASSIGNED_STACK" Bundle.steD) ∨ w = .isRef (.static Bundle.tN "SUPPRESSED_SENTINEL" Bundle.listD))
  ∧ (∀ k pc ci, xX ci → (∀ h, mm_kh P k pc ci = some h → h ≠ 999999 → mm_hit (xc k) pc ci (hs k) = some h) ∧ (mm_kh P k pc ci = none → ∀ x ∈ hs k, ¬ (x.1 ≤ pc ∧ pc < x.2.1)))
  ∧ (∀ k ct cj, xc k ct = some cj → ct ≠ 0 ∧ xX cj ∧ ∃ X T, cl[cj]? = some (X, T, 0) ∧ Cond.classLink (cn (mm_kc P k)) ct X ∈ TB)
/-- the tables tell the truth, so far as switches by keys and arrays go that are there from the beginning -/
def mm_ok4 (P : mm_P) (TB : List Cond) (cn : Nat → String) (kb : Nat → ByteArray) (b : Nat → Nat) (z : Nat) (eX : Nat → Nat × (Nat → Int32)) (s0 : State) : Prop :=
  (∀ k pc dt ps, mm_lk P k pc = some (dt, ps) → ∃ (dflt : Int) (qs : Array (Int × Int)) (len : Nat), decode (kb k) pc = .ok (.lookupswitch dflt qs, len) ∧ (qs.toList.zip (qs.toList.drop 1)).all (fun (a, next) => a.1 < next.1) = true ∧ (pc : Int) + dflt = (dt : Int) ∧ ps.map (fun q => (q.1, (q.2 : Int))) = qs.toList.map (fun q => (q.1, (pc : Int) + q.2)))
  ∧ (∀ k pc j idx i w, mm_gs P k pc = some (j, idx, i, w) → decode (kb k) pc = .ok (.getstatic idx, 3) ∧ (∃ C n d, va_Z C n d (.ref (b (j + 1))) (fun q => z ≤ q) s0 s0.heap ∧ Cond.fieldLink (cn (mm_kc P k)) idx C n d ∈ TB) ∧ va_T .int (b (j + 1)) (eX (j + 1)).1 (fun i => .int ((eX (j + 1)).2 i)) (fun q => z ≤ q) s0 s0.heap
      ∧ (i = 0 → decode (kb k) (pc + 3) = .ok (.arraylength, 1)) ∧ (∀ i', i = i' + 1 → ∃ ins, mm_ld ins = some (i', w, 0) ∧ decode (kb k) (pc + 3) = .ok (ins, w) ∧ decode (kb k) (pc + 3 + w) = .ok (.iaload, 1)))
  ∧ (∀ k pc a c, mm_xs P k pc = some (a, c) → (a = 0 → ∃ i tx, decode (kb k) pc = .ok (.ldc i, 2) ∧ vk_R (cn (mm_kc P k)) i tx (b 3) s0) ∧ (a = 1 → ∃ i, decode (kb k) pc = .ok (.getfield i, 3) ∧ Cond.fieldLink (cn (mm_kc P k)) i "java/lang/String" "value" "[B" ∈ TB) ∧ (a = 2 → ∃ i, decode (kb k) pc = .ok (.getfield i, 3) ∧ Cond.fieldLink (cn (mm_kc P k)) i "java/lang/String" "coder" "B" ∈ TB)
      ∧ (a = 3 → decode (kb k) pc = .ok (.baload, 1)) ∧ (a = 4 → decode (kb k) pc = .ok (.arraylength, 1)) ∧ (5 ≤ a → ∃ i C n d, decode (kb k) pc = .ok (.getstatic i, 3) ∧ va_Z C n d (.int (Int32.ofNat c)) (fun q => z ≤ q) s0 s0.heap ∧ Cond.fieldLink (cn (mm_kc P k)) i C n d ∈ TB))
  ∧ (∃ byt : List Int32, vk_S 1 [(eX 4).1] [byt] (fun _ => b 3) (fun _ => b 4) (fun q => z ≤ q) s0 s0.heap ∧ ∀ j, (eX 4).2 j = byt.getD j 0)
theorem mm_lks_ok {x : Int} {pc : Nat} {p : Nat → Prop} {d : Prop} {dt : Nat} {dflt : Int} : ∀ (ps : List (Int × Nat)) (qs : List (Int × Int)), ps.map (fun q => (q.1, (q.2 : Int))) = qs.map (fun q => (q.1, (pc : Int) + q.2)) → (d → p dt) → (pc : Int) + dflt = (dt : Int) → mm_lks x ps p d → ∃ t : Nat, (pc : Int) + Op.lookupswitch.offset qs dflt x = (t : Int) ∧ p t
  | [], [], _, hd, ht, h => ⟨dt, ht, hd h⟩
  | [], q :: qs, he, _, _, _ => by simp at he
  | q :: ps, [], he, _, _, _ => by simp at he
  | (a, t) :: ps, (a', o) :: qs, he, hd, ht, h => by
    simp only [List.map_cons, List.cons.injEq, Prod.mk.injEq] at he
    obtain ⟨⟨h1, h2⟩, h3⟩ := he
    subst h1
    rw [Op.lookupswitch.offset_cons]
    by_cases hx : a = x
    · rw [if_pos hx]
      exact ⟨t, h2.symm, h.1 hx.symm⟩
    · rw [if_neg hx]
      exact mm_lks_ok ps qs h3 hd ht (h.2 (fun q => hx q.symm))
/-- what holds at the law's start -/
def mm_s0 (TB : List Cond) (SB : List (String × Nat × String)) (cl : List vw_C) (tyl : List FieldType) (D : va_G) (cT : Nat → Nat) (xX : Nat → Prop) (a0 : Array Value) (s0 : State) : Prop :=
  (∀ w ∈ TB, mm_gw w = true ∧ w.before a0 s0 = true) ∧ (∀ q ∈ SB, (Cond.stringRef q.1 q.2.1 q.2.2).before a0 s0 = true)
  ∧ ((Cond.laysStatic Bundle.tN "UNASSIGNED_STACK" Bundle.steD).before a0 s0 = true ∧ (Cond.isRef (.static Bundle.tN "UNASSIGNED_STACK" Bundle.steD)).before a0 s0 = true ∧ (Cond.laysStatic Bundle.tN "SUPPRESSED_SENTINEL" Bundle.listD).before a0 s0 = true ∧ (Cond.isRef (.static Bundle.tN "SUPPRESSED_SENTINEL" Bundle.listD)).before a0 s0 = true)
  ∧ va_K D cl (mm_T cT 0 tyl) s0 ∧ ∀ ci cj, xX ci → xX cj → (s0.vm.assignable (D.1 ci) (D.1 cj) = true ↔ cj = ci)
/-- what holds of a method that is walked -/
def mm_C (P : mm_P) (cn : Nat → String) (kb : Nat → ByteArray) (hs : Nat → List (Nat × Nat × Nat × Nat)) (s0 : State) (z : Nat) (k : Nat) (p : Program) (s : State) (m : MethodId) (meth : Method) (c : Code) : Prop :=
  p.tables.exec = Jvm.exec ∧ c.code = kb k ∧ c.maxLocals = mm_kl P k ∧ meth.sig.returnType = mm_kr P k ∧ meth.locks = false ∧ s.vm.findClass (cn (mm_kc P k)) = some m.cls ∧ (mm_ki P k = true → meth.name = "<init>")
  ∧ c.exceptionTable.toList.map (fun h => (h.startPc, h.endPc, h.handlerPc, h.catchType)) = hs k ∧ mm_B s0 z s
theorem mm_mono {p : Program} {l : Launch} {e : Env} {R : Room} {s : State} {m : MethodId} {args : Array Value} {below : List Frame} {meth : Method} {c : Code} {H : Heap} {locs : List Loc} {cells slots : Nat} {Q Q' : State → Prop} {g : JFrame} (h : ∀ t, Q t → Q' t) (w : W p l e R s m args below meth c H locs cells slots Q g) : W p l e R s m args below meth c H locs cells slots Q' g := fun T hT X => by
  obtain ⟨t, a, b⟩ := w T hT X
  exact ⟨t, a, h t b⟩
/-- what a return leaves -/
theorem mm_ret_end {P : mm_P} {D : va_G} {cl : List vw_C} {cT : Nat → Nat} {b : Nat → Nat} {z : Nat} {eX : Nat → Nat × (Nat → Int32)} {xX : Nat → Prop} {s : State} {below : List Frame} {gl0 sl0 sl cells slots : Nat} {Q : mm_K} {g : List va_E} {H : Heap} {locs : List Loc} {args : Array Value} {v : Option Value} {t : State} (hR : mm_R D cl cT b z eX s g H locs) (hcnt : mm_cnt P gl0 sl0 cells slots g sl) (hQ : Q (.inl v) g sl)
    (h : MQ below (fun _ _ o t => o = .returned (v.map (mm_v (mm_A b z))) ∧ t.heap = H) args s cells slots (fun q => z ≤ q) t) : mm_end P D cl cT b z eX xX s below gl0 sl0 Q t := by
  obtain ⟨o, h1, h2, ⟨h3, h4⟩, lc, ⟨-, hW, hs⟩, hf⟩ := h
  obtain ⟨r1, r2, r3, r4, r5, r6⟩ := hR
  refine ⟨o, .inl v, g, sl, lc, cells, slots, h1, h2, hW, hs, ?_, hcnt, hQ, h3⟩
  rw [h4]
  exact ⟨r1, r2, ⟨r3.1, r3.2.1, hf⟩, r4, r5, r6⟩
theorem mm_kw_ok {P : mm_P} {ky : Nat → MethodName} {kb : Nat → ByteArray} {hs : Nat → List (Nat × Nat × Nat × Nat)} {TB : List Cond} {k : Nat} {args : Array Value} {s : State} (hts : ∀ w ∈ TB, w.before args s = true) (h : mm_kw P ky kb hs TB k) :
    ∃ mk meth c, s.methodNamed? (ky k) = some mk ∧ s.vm.method? mk = some meth ∧ meth.code = some c ∧ c.code = kb k ∧ c.maxLocals = mm_kl P k ∧ meth.sig.returnType = mm_kr P k ∧ meth.locks = false ∧ c.exceptionTable.toList.map (fun h => (h.startPc, h.endPc, h.handlerPc, h.catchType)) = hs k ∧ parseMethodDescriptor (ky k).desc = some meth.sig := by
  rcases h with ⟨h, h0⟩ | h
  · obtain ⟨mk, hn⟩ := Cond.code_named (hts _ h)
    obtain ⟨meth, c, h1, h2, h3, h4, h5, h6, h7, h8⟩ := Cond.code_spec hn (hts _ h)
    refine ⟨mk, meth, c, hn, h1, h2, h3, h4, h5, h6, ?_, h8⟩
    have : c.exceptionTable.size = 0 := by simpa [Array.isEmpty] using h7
    have : c.exceptionTable.toList = [] := List.eq_nil_of_length_eq_zero (by simpa using this)
    rw [this, h0]; rfl
  · obtain ⟨mk, meth, c, hn, h1, h2, h3, h4, h5, h6, h7, h8⟩ := Cond.codeWith_spec (hts _ h)
    exact ⟨mk, meth, c, hn, h1, h2, h3, h4, h6, h7, h5, h8⟩

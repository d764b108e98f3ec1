/-! THE TABLES of the small machine, in one bundle; the steps that touch cells, as a function. -/
abbrev mm_P : Type := (Nat → Nat) × (Nat → List (Nat × Instr)) × (Nat → Nat) × (Nat → Option FieldType) × (Nat → Bool) × (Nat → Nat → Nat → Option Nat) × (Nat → Nat → Option Nat) × (Nat → Nat → Option (Nat × Nat)) × (Nat → Nat → FieldType × Bool) × (Nat → Nat → Option (Nat × List Value)) × (Nat → Nat → Option Nat) × (Nat → Nat → Option (Nat × Nat × Nat)) × (Nat → Nat → Option Int32) × (Nat → Nat → Option Int64) × (Nat → Nat → Option (Int × Nat × List Nat)) × (Nat → Option Nat) × Nat × Nat × Nat × (Nat → Nat → Option (Nat × Nat × Nat × Nat)) × (Nat → Nat → Option (Nat × List (Int × Nat))) × (Nat → Nat → Option (Nat × Nat))
/-- a method's class -/
abbrev mm_kc (P : mm_P) : Nat → Nat := P.1
/-- its code -/
abbrev mm_kd (P : mm_P) : Nat → List (Nat × Instr) := P.2.1
/-- its locals -/
abbrev mm_kl (P : mm_P) : Nat → Nat := P.2.2.1
/-- what it returns -/
abbrev mm_kr (P : mm_P) : Nat → Option FieldType := P.2.2.2.1
/-- is it a constructor -/
abbrev mm_ki (P : mm_P) : Nat → Bool := P.2.2.2.2.1
/-- where an exception of a class, thrown by the call at pc, is caught -/
abbrev mm_kh (P : mm_P) : Nat → Nat → Nat → Option Nat := P.2.2.2.2.2.1
/-- where a throw of a new exception begins: its class -/
abbrev mm_xt (P : mm_P) : Nat → Nat → Option Nat := P.2.2.2.2.2.2.1
/-- a field: its class, its place there -/
abbrev mm_fl (P : mm_P) : Nat → Nat → Option (Nat × Nat) := P.2.2.2.2.2.2.2.1
/-- a field's type, and whether it is final -/
abbrev mm_ft (P : mm_P) : Nat → Nat → FieldType × Bool := P.2.2.2.2.2.2.2.2.1
/-- what 'new' makes -/
abbrev mm_nl (P : mm_P) : Nat → Nat → Option (Nat × List Value) := P.2.2.2.2.2.2.2.2.2.1
/-- the type of what 'anewarray' makes -/
abbrev mm_al (P : mm_P) : Nat → Nat → Option Nat := P.2.2.2.2.2.2.2.2.2.2.1
/-- a call: the method, how many values it takes, its kind (0 static, 1 virtual, 2 a constructor, 3 Object's) -/
abbrev mm_ml (P : mm_P) : Nat → Nat → Option (Nat × Nat × Nat) := P.2.2.2.2.2.2.2.2.2.2.2.1
abbrev mm_cI (P : mm_P) : Nat → Nat → Option Int32 := P.2.2.2.2.2.2.2.2.2.2.2.2.1
abbrev mm_cL (P : mm_P) : Nat → Nat → Option Int64 := P.2.2.2.2.2.2.2.2.2.2.2.2.2.1
/-- a tableswitch: its least value, where it goes else, where it goes -/
abbrev mm_sw (P : mm_P) : Nat → Nat → Option (Int × Nat × List Nat) := P.2.2.2.2.2.2.2.2.2.2.2.2.2.2.1
/-- the class of what a row of references holds -/
abbrev mm_ec (P : mm_P) : Nat → Option Nat := P.2.2.2.2.2.2.2.2.2.2.2.2.2.2.2.1
abbrev mm_CM (P : mm_P) : Nat := P.2.2.2.2.2.2.2.2.2.2.2.2.2.2.2.2.1
abbrev mm_SM (P : mm_P) : Nat := P.2.2.2.2.2.2.2.2.2.2.2.2.2.2.2.2.2.1
abbrev mm_nT (P : mm_P) : Nat := P.2.2.2.2.2.2.2.2.2.2.2.2.2.2.2.2.2.2.1
/-- a read of an array that is there from the beginning: which one, the field's entry, 0 for its length or a local and 1, the length of the load -/
abbrev mm_gs (P : mm_P) : Nat → Nat → Option (Nat × Nat × Nat × Nat) := P.2.2.2.2.2.2.2.2.2.2.2.2.2.2.2.2.2.2.2.1
/-- a switch by keys: where else, the keys and where they go -/
abbrev mm_lk (P : mm_P) : Nat → Nat → Option (Nat × List (Int × Nat)) := P.2.2.2.2.2.2.2.2.2.2.2.2.2.2.2.2.2.2.2.2.1
/-- a step on the text that is there from the beginning: 0 its load, 1 its bytes, 2 its coder, 3 a byte, 4 their number, 5 a static number -/
abbrev mm_xs (P : mm_P) : Nat → Nat → Option (Nat × Nat) := P.2.2.2.2.2.2.2.2.2.2.2.2.2.2.2.2.2.2.2.2.2
/-- may a value go into a field of a type: 1 yes, 2 if it is narrow enough, 0 no -/
def mm_fit : FieldType → Value → Nat
  | .int, .int _ => 1
  | .long, .long _ => 1
  | .object _, .ref _ => 1
  | .object _, .null => 1
  | .array _, .ref _ => 1
  | .array _, .null => 1
  | .boolean, .int _ => 2
  | .char, .int _ => 2
  | _, _ => 0
theorem mm_fit_1 {A : Nat → Nat} {ty : FieldType} {v : Value} (h : mm_fit ty v = 1) : narrow ty (mm_v A v) = mm_v A v ∧ fits ty (mm_v A v) = true := by
  unfold mm_fit at h
  split at h <;> first | (cases h; done) | exact ⟨rfl, rfl⟩
theorem mm_fit_2 {A : Nat → Nat} {ty : FieldType} {v : Value} (h : mm_fit ty v = 2) : mm_v A v = v := by
  unfold mm_fit at h
  split at h <;> first | (cases h; done) | rfl
/-- the type's number and the zeros of a new row -/
def mm_nt : ArrayType → Option (Nat × (Nat → vp_A))
  | .int => some (0, fun n => (n, .inl (fun _ => 0)))
  | .long => some (1, fun n => (n, .inr (.inl (fun _ => 0))))
  | .char => some (2, fun n => (n, .inl (fun _ => 0)))
  | .boolean => some (3, fun n => (n, .inl (fun _ => 0)))
  | _ => none
def mm_s2 (P : mm_P) (k : Nat) (eX : Nat → Nat × (Nat → Int32)) (nx : Nat → List Value → List va_E → Nat → Prop) (ins : Instr) (pc : Nat) (st : List Value) (g : List va_E) (sl : Nat) : Option Prop :=
  match ins with
  | .getfield i => match st with
    | .ref (q + 1) :: r => match g[q]? with
      | some (.inr (ci, fs)) => match mm_fl P (mm_kc P k) i with
        | some (cj, j) => match decide (ci = cj) with
          | true => match fs[j]? with
            | some v => some (nx (pc + 3) (v :: r) g sl)
            | none => some False
          | false => some False
        | none => some False
      | _ => some False
    | _ => some False
  | .putfield i => match st with
    | v :: .ref (q + 1) :: r => match g[q]? with
      | some (.inr (ci, fs)) => match mm_fl P (mm_kc P k) i with
        | some (cj, j) => match decide (ci = cj ∧ j < fs.length ∧ ((mm_ft P ci j).2 = false ∨ (mm_ki P k = true ∧ ci = mm_kc P k))) with
          | true => match mm_fit (mm_ft P ci j).1 v with
            | 1 => some (nx (pc + 3) r (g.set q (.inr (ci, fs.set j v))) sl)
            | 2 => some ((narrow (mm_ft P ci j).1 v = v ∧ fits (mm_ft P ci j).1 v = true) ∧ nx (pc + 3) r (g.set q (.inr (ci, fs.set j v))) sl)
            | _ => some False
          | false => some False
        | none => some False
      | _ => some False
    | _ => some False
  | .iaload => match st with
    | .int i :: .ref 0 :: r => some (vp_in i (eX 0).1 ∧ nx (pc + 1) (.int ((eX 0).2 i.toNatClampNeg) :: r) g sl)
    | .int i :: .ref (q + 1) :: r => match g[q]? with
      | some (.inl (0, n, .inl f)) => some (vp_in i n ∧ nx (pc + 1) (.int (f i.toNatClampNeg) :: r) g sl)
      | _ => some False
    | _ => some False
  | .laload => match st with
    | .int i :: .ref (q + 1) :: r => match g[q]? with
      | some (.inl (1, n, .inr (.inl f))) => some (vp_in i n ∧ nx (pc + 1) (.long (f i.toNatClampNeg) :: r) g sl)
      | _ => some False
    | _ => some False
  | .caload => match st with
    | .int i :: .ref (q + 1) :: r => match g[q]? with
      | some (.inl (2, n, .inl f)) => some (vp_in i n ∧ nx (pc + 1) (.int (f i.toNatClampNeg) :: r) g sl)
      | _ => some False
    | _ => some False
  | .baload => match st with
    | .int i :: .ref (q + 1) :: r => match g[q]? with
      | some (.inl (3, n, .inl f)) => some (vp_in i n ∧ nx (pc + 1) (.int (f i.toNatClampNeg) :: r) g sl)
      | _ => some False
    | _ => some False
  | .aaload => match st with
    | .int i :: .ref (q + 1) :: r => match g[q]? with
      | some (.inl (t, n, .inr (.inr (.inr (.inr f))))) => match decide (4 ≤ t ∧ t < mm_nT P) with
        | true => some (vp_in i n ∧ nx (pc + 1) (va_rf (f i.toNatClampNeg) :: r) g sl)
        | false => some False
      | _ => some False
    | _ => some False
  | .iastore => match st with
    | .int x :: .int i :: .ref (q + 1) :: r => match g[q]? with
      | some (.inl (0, n, .inl f)) => some (vp_in i n ∧ nx (pc + 1) r (g.set q (.inl (0, n, .inl (upd f i.toNatClampNeg x)))) sl)
      | _ => some False
    | _ => some False
  | .lastore => match st with
    | .long x :: .int i :: .ref (q + 1) :: r => match g[q]? with
      | some (.inl (1, n, .inr (.inl f))) => some (vp_in i n ∧ nx (pc + 1) r (g.set q (.inl (1, n, .inr (.inl (vp_updL f i.toNatClampNeg x))))) sl)
      | _ => some False
    | _ => some False
  | .castore => match st with
    | .int x :: .int i :: .ref (q + 1) :: r => match g[q]? with
      | some (.inl (2, n, .inl f)) => some (vp_in i n ∧ nx (pc + 1) r (g.set q (.inl (2, n, .inl (upd f i.toNatClampNeg (vp_nar .char x))))) sl)
      | _ => some False
    | _ => some False
  | .bastore => match st with
    | .int x :: .int i :: .ref (q + 1) :: r => match g[q]? with
      | some (.inl (3, n, .inl f)) => some (vp_in i n ∧ nx (pc + 1) r (g.set q (.inl (3, n, .inl (upd f i.toNatClampNeg (vp_nar .boolean x))))) sl)
      | _ => some False
    | _ => some False
  | .aastore => match st with
    | .ref (q2 + 1) :: .int i :: .ref (q + 1) :: r => match g[q]? with
      | some (.inl (t, n, .inr (.inr (.inr (.inr f))))) => match g[q2]? with
        | some (.inr (ci, _)) => match mm_ec P t with
          | some cj => match decide (ci = cj) with
            | true => some (vp_in i n ∧ nx (pc + 1) r (g.set q (.inl (t, n, .inr (.inr (.inr (.inr (va_up f i.toNatClampNeg (some (q2 + 1))))))))) sl)
            | false => some False
          | none => some False
        | some (.inl (0, _, .inl _)) => match mm_ec P t with
          | some cj => match decide (cj = 1000000) with
            | true => some (vp_in i n ∧ nx (pc + 1) r (g.set q (.inl (t, n, .inr (.inr (.inr (.inr (va_up f i.toNatClampNeg (some (q2 + 1))))))))) sl)
            | false => some False
          | none => some False
        | _ => some False
      | _ => some False
    | _ => some False
  | .arraylength => match st with
    | .ref 0 :: r => some (nx (pc + 1) (.int (Int32.ofNat (eX 0).1) :: r) g sl)
    | .ref (q + 1) :: r => match g[q]? with
      | some (.inl (t, a)) => match decide (t < mm_nT P) with
        | true => some (nx (pc + 1) (.int (Int32.ofNat a.1) :: r) g sl)
        | false => some False
      | _ => some False
    | _ => some False
  | .newarray y => match st with
    | .int x :: r => match mm_nt y with
      | some (t, a0) => some ((¬ x < 0 ∧ x.toNatClampNeg ≤ 1000000 ∧ g.length + 1 ≤ mm_CM P ∧ sl + x.toNatClampNeg ≤ mm_SM P) ∧ nx (pc + 2) (.ref (g.length + 1) :: r) (g ++ [.inl (t, a0 x.toNatClampNeg)]) (sl + x.toNatClampNeg))
      | none => some False
    | _ => some False
  | .anewarray i => match st with
    | .int x :: r => match mm_al P (mm_kc P k) i with
      | some t => some ((¬ x < 0 ∧ x.toNatClampNeg ≤ 1000000 ∧ g.length + 1 ≤ mm_CM P ∧ sl + x.toNatClampNeg ≤ mm_SM P) ∧ nx (pc + 3) (.ref (g.length + 1) :: r) (g ++ [.inl (t, x.toNatClampNeg, .inr (.inr (.inr (.inr (fun _ => none)))))]) (sl + x.toNatClampNeg))
      | none => some False
    | _ => some False
  | .new i => match mm_nl P (mm_kc P k) i with
    | some (ci, dv) => some ((g.length + 1 ≤ mm_CM P ∧ sl + dv.length ≤ mm_SM P) ∧ nx (pc + 3) (.ref (g.length + 1) :: st) (g ++ [.inr (ci, dv)]) (sl + dv.length))
    | none => some False
  | .ldc i => match mm_cI P (mm_kc P k) i with
    | some v => some (nx (pc + 2) (.int v :: st) g sl)
    | none => some False
  | .ldc_w i => match mm_cI P (mm_kc P k) i with
    | some v => some (nx (pc + 3) (.int v :: st) g sl)
    | none => some False
  | .ldc2_w i => match mm_cL P (mm_kc P k) i with
    | some v => some (nx (pc + 3) (.long v :: st) g sl)
    | none => some False
  | _ => none
/-- the tables tell the truth, so far as cells go. cn: the classes' names -/
def mm_ok2 (P : mm_P) (TB : List Cond) (cl : List vw_C) (tyl : List FieldType) (cn : Nat → String) : Prop :=
  (∀ ci C T N, cl[ci]? = some (C, T, N) → (∀ w ∈ u_ws C T N, w ∈ TB) ∧ (∀ j, j < N → parseFieldDescriptor (T j).2.2.1 = some (mm_ft P ci j).1 ∧ (T j).2.2.2 = (mm_ft P ci j).2 ∧ (T j).1 = C) ∧ (∀ a, a < N → ∀ b, b < N → a ≠ b → (T a).2.1 ≠ (T b).2.1) ∧ (0 < N → cn ci = C))
  ∧ (∀ o i ci j, mm_fl P o i = some (ci, j) → ∃ C T N, cl[ci]? = some (C, T, N) ∧ j < N ∧ Cond.fieldLink (cn o) i (T j).1 (T j).2.1 (T j).2.2.1 ∈ TB)
  ∧ (∀ o i ci dv, mm_nl P o i = some (ci, dv) → ∃ C T N, cl[ci]? = some (C, T, N) ∧ Cond.classLink (cn o) i C ∈ TB ∧ Cond.instantiable C N ∈ TB ∧ Cond.initialized C ∈ TB ∧ dv.length = N ∧ (∀ v ∈ dv, ∀ q, v ≠ .ref q) ∧ ∀ j, j < N → defaultValue (mm_ft P ci j).1 = vp_V dv j)
  ∧ (∀ o i t, mm_al P o i = some t → (∃ C, tyl[t]? = some (.object C) ∧ Cond.classLink (cn o) i C ∈ TB ∧ Cond.arrayOver (.object C) ∈ TB) ∨ (∃ y, tyl[t]? = some (.array y) ∧ Cond.classLink (cn o) i (FieldType.array y).toString ∈ TB ∧ Cond.arrayOver (.array y) ∈ TB))
  ∧ (∀ y t a0, mm_nt y = some (t, a0) → tyl[t]? = some (newarray.typeOf y) ∧ Cond.arrayClass (newarray.typeOf y) ∈ TB)
  ∧ (∀ o i v, mm_cI P o i = some v → Cond.constant (cn o) i v ∈ TB)
  ∧ (∀ o i v, mm_cL P o i = some v → Cond.constantLong (cn o) i v ∈ TB)
  ∧ (tyl.length = mm_nT P ∧ (∀ t, 4 ≤ t → t < mm_nT P → ∃ y, tyl[t]? = some y ∧ y.isReference = true))
  ∧ (∀ t ci, mm_ec P t = some ci → (cl[ci]? ≠ none → ∃ r : vw_C, tyl[t]? = some (.object r.1) ∧ cl[ci]? = some r) ∧ (ci = 1000000 → tyl[t]? = some (.array .int) ∧ Cond.arrayOver (.array .int) ∈ TB))
  ∧ mm_CM P ≤ 1000000
theorem mm_dv {A : Nat → Nat} {dv : List Value} (h : ∀ v ∈ dv, ∀ q, v ≠ .ref q) : dv.map (mm_v A) = dv := by
  have : ∀ v ∈ dv, mm_v A v = v := fun v hv => by
    cases v <;> first | rfl | exact absurd rfl (h _ hv _)
  exact (List.map_congr_left this).trans (List.map_id' dv)
/-- the counters: what the method has made so far, and that all of it fits -/
def mm_cnt (P : mm_P) (gl0 sl0 cells slots : Nat) (g : List va_E) (sl : Nat) : Prop := cells + gl0 = g.length ∧ slots + sl0 = sl ∧ g.length ≤ mm_CM P ∧ sl ≤ mm_SM P
section MmS2
variable {p : Program} {l : Launch} {e : Env} {R : Room} {s : State} {m : MethodId} {args : Array Value} {below : List Frame} {meth : Method} {c : Code} {H : Heap} {locs : List Loc} {cells slots : Nat} {Q : State → Prop} {cc : ByteArray} {pc : Nat} {ins : Instr} {L : Array Slot} {D : va_G} {cl : List vw_C} {cT : Nat → Nat} {b : Nat → Nat} {z : Nat} {eX : Nat → Nat × (Nat → Int32)} {g : List va_E} {st : List Value} {tyl : List FieldType} {TB : List Cond} {P : mm_P} {cn : Nat → String} {k sl gl0 sl0 : Nat}
theorem mm_fin {ci j kc : Nat} {ki : Bool} {C own : String} {T : u_T} {fin : Bool} {name : String} (h1 : (T j).2.2.2 = fin) (h2 : (T j).1 = C) (hi : ki = true → name = "<init>") (hc : ci = kc → C = own) (h : fin = false ∨ (ki = true ∧ ci = kc)) : (T j).2.2.2 = false ∨ ((T j).2.2.2 = true ∧ name = "<init>" ∧ (T j).1 = own) := by
  subst h1
  rcases h with h | ⟨h3, h4⟩
  · exact Or.inl h
  · cases hf : (T j).2.2.2 with
    | false => exact Or.inl rfl
    | true => exact Or.inr ⟨rfl, hi h3, h2.trans (hc h4)⟩
set_option maxHeartbeats 2000000 in
theorem mm_s2_ok (ok : mm_ok2 P TB cl tyl cn) (hx : p.tables.exec = Jvm.exec) (hb : c.code = cc) (hts : ∀ w ∈ TB, w.before args s = true) (hown : s.vm.findClass (cn (mm_kc P k)) = some m.cls) (hname : mm_ki P k = true → meth.name = "<init>") (hK : va_K D cl (mm_T cT 0 tyl) s)
    {nx : Nat → List Value → List va_E → Nat → Prop} {X : Prop} (h : mm_s2 P k eX nx ins pc st g sl = some X) (hX : X) (hdg : decode cc pc = .ok (ins, mm_ln ins)) (hR : mm_R D cl cT b z eX s g H locs) (hcnt : mm_cnt P gl0 sl0 cells slots g sl) (hCM : mm_CM P ≤ R.cells + gl0) (hSM : mm_SM P ≤ R.slots + sl0)
    (kk : ∀ pc' st' g' sl' H' locs' cells' slots', nx pc' st' g' sl' → mm_R D cl cT b z eX s g' H' locs' → mm_cnt P gl0 sl0 cells' slots' g' sl' → W p l e R s m args below meth c H' locs' cells' slots' Q (F0 m pc' L (mm_S (mm_A b z) st'))) : W p l e R s m args below meth c H locs cells slots Q (F0 m pc L (mm_S (mm_A b z) st)) := by
  obtain ⟨okC, okF, okN, okA, okT, okI, okL, ⟨okn, okR⟩, okE, okB⟩ := ok
  obtain ⟨hcells, hslots, hcap1, hcap2⟩ := id hcnt
  have hset : ∀ (q : Nat) (e' : va_E), mm_cnt P gl0 sl0 cells slots (g.set q e') sl := fun q e' => ⟨by rw [List.length_set]; exact hcells, hslots, by rw [List.length_set]; exact hcap1, hcap2⟩
  unfold mm_s2 at h
  split at h
  · split at h
    · split at h
      · rename_i ci fs hq
        split at h
        · rename_i cj j hf
          split at h
          · rename_i hd
            have hd := of_decide_eq_true hd
            subst hd
            split at h
            · rename_i v hv
              cases h
              obtain ⟨C, T, N, hc, hj, hl⟩ := okF _ _ _ _ hf
              exact mm_getf_ok hx hb hts (okC _ _ _ _ hc).1 hown hK hR hq hc hj hl hv hdg (kk _ _ _ _ _ _ _ _ hX hR hcnt)
            · cases h; exact hX.elim
          · cases h; exact hX.elim
        · cases h; exact hX.elim
      · cases h; exact hX.elim
    · cases h; exact hX.elim
  · split at h
    · split at h
      · rename_i ci fs hq
        split at h
        · rename_i cj j hf
          split at h
          · rename_i hd
            obtain ⟨hd1, hd2, hd3⟩ := of_decide_eq_true hd
            subst hd1
            obtain ⟨C, T, N, hc, hj, hl⟩ := okF _ _ _ _ hf
            obtain ⟨o1, o2, o3, o4⟩ := okC _ _ _ _ hc
            have hfin := mm_fin (own := cn (mm_kc P k)) (o2 _ hj).2.1 (o2 _ hj).2.2 hname (fun q => by rw [← q]; exact (o4 (by omega)).symm) hd3
            split at h
            · rename_i hft
              cases h
              have hft := mm_fit_1 (A := mm_A b z) hft
              exact mm_putf_ok (ft := fun i => (mm_ft P ci i).1) hx hb hts o1 hown hK hR hq hc hj hl (fun i hi => (o2 i hi).1) o3 hfin hft.1 hft.2 hd2 hdg (fun H' i r => kk _ _ _ _ _ _ _ _ hX r (hset _ _))
            · rename_i hft
              cases h
              have hft := mm_fit_2 (A := mm_A b z) hft
              exact mm_putf_ok (ft := fun i => (mm_ft P ci i).1) hx hb hts o1 hown hK hR hq hc hj hl (fun i hi => (o2 i hi).1) o3 hfin (by rw [hft]; exact hX.1.1) (by rw [hft]; exact hX.1.2) hd2 hdg (fun H' i r => kk _ _ _ _ _ _ _ _ hX.2 r (hset _ _))
            · cases h; exact hX.elim
          · cases h; exact hX.elim
        · cases h; exact hX.elim
      · cases h; exact hX.elim
    · cases h; exact hX.elim
  · split at h
    · cases h
      exact va_sld (A := fun q => z ≤ q) hx hb hR.2.2.2.1 (by have := hR.2.2.2.2.1.1; have := hR.2.2.2.2.2; omega) (by have := hR.2.2.2.2.1.1; show ¬ z ≤ b 0; omega) hR.2.2.1 hX.1 hdg (kk _ _ _ _ _ _ _ _ hX.2 hR hcnt)
    · split at h
      · rename_i hq
        cases h
        exact va_iald hx hb hK hR.2.1 _ 0 (mm_at hR hq) (mm_ty hK (okT .int _ _ rfl).1) hX.1 hdg (kk _ _ _ _ _ _ _ _ hX.2 hR hcnt)
      · cases h; exact hX.elim
    · cases h; exact hX.elim
  · split at h
    · split at h
      · rename_i hq
        cases h
        exact va_lald hx hb hK hR.2.1 _ 1 (mm_at hR hq) (mm_ty hK (okT .long _ _ rfl).1) hX.1 hdg (kk _ _ _ _ _ _ _ _ hX.2 hR hcnt)
      · cases h; exact hX.elim
    · cases h; exact hX.elim
  · split at h
    · split at h
      · rename_i hq
        cases h
        exact va_cald hx hb hK hR.2.1 _ 2 (mm_at hR hq) (mm_ty hK (okT .char _ _ rfl).1) hX.1 hdg (kk _ _ _ _ _ _ _ _ hX.2 hR hcnt)
      · cases h; exact hX.elim
    · cases h; exact hX.elim
  · split at h
    · split at h
      · rename_i hq
        cases h
        exact va_zald hx hb hK hR.2.1 _ 3 (mm_at hR hq) (mm_ty hK (okT .boolean _ _ rfl).1) hX.1 hdg (kk _ _ _ _ _ _ _ _ hX.2 hR hcnt)
      · cases h; exact hX.elim
    · cases h; exact hX.elim
  · split at h
    · split at h
      · rename_i t n f hq
        split at h
        · rename_i hd
          obtain ⟨hd1, hd2⟩ := of_decide_eq_true hd
          cases h
          obtain ⟨y, hy, hr⟩ := okR _ hd1 hd2
          have hlt : _ < n := Nat.not_le.mp fun q => hX.1 (Or.inr q)
          refine W.aald (v := mm_v (mm_A b z) (va_rf (f _))) (ty := y) hx hb (hR.2.1 _ _ (mm_at hR hq)) ((hK.2 t _ (mm_ty hK hy)).1 n (fun j => va_rf ((f j).map (mm_A b z)))) hr (fun q => by cases q) (by show ¬ (_ < 0 ∨ (arrV _ _ _).slots.size ≤ _); rw [arrV_size]; exact hX.1) ?_ rfl rfl hdg (kk _ _ _ _ _ _ _ _ hX.2 hR hcnt)
          show (arrV (cT t) n (fun j => va_rf ((f j).map (mm_A b z)))).slots[_]? = _
          rw [arrV_read _ _ hlt]
          cases f _ <;> rfl
        · cases h; exact hX.elim
      · cases h; exact hX.elim
    · cases h; exact hX.elim
  · split at h
    · split at h
      · rename_i hq
        cases h
        exact mm_iast_ok hx hb hK hR hq (okT .int _ _ rfl).1 hX.1 hdg (fun H' i r => kk _ _ _ _ _ _ _ _ hX.2 r (hset _ _))
      · cases h; exact hX.elim
    · cases h; exact hX.elim
  · split at h
    · split at h
      · rename_i hq
        cases h
        exact mm_last_ok hx hb hK hR hq (okT .long _ _ rfl).1 hX.1 hdg (fun H' i r => kk _ _ _ _ _ _ _ _ hX.2 r (hset _ _))
      · cases h; exact hX.elim
    · cases h; exact hX.elim
  · split at h
    · split at h
      · rename_i hq
        cases h
        exact mm_cast_ok hx hb hK hR hq (okT .char _ _ rfl).1 hX.1 hdg (fun H' i r => kk _ _ _ _ _ _ _ _ hX.2 r (hset _ _))
      · cases h; exact hX.elim
    · cases h; exact hX.elim
  · split at h
    · split at h
      · rename_i hq
        cases h
        exact mm_zast_ok hx hb hK hR hq (okT .boolean _ _ rfl).1 hX.1 hdg (fun H' i r => kk _ _ _ _ _ _ _ _ hX.2 r (hset _ _))
      · cases h; exact hX.elim
    · cases h; exact hX.elim
  · split at h
    · split at h
      · rename_i t n f hq
        split at h
        · rename_i ci fs hq2
          split at h
          · rename_i cj he
            split at h
            · rename_i hd
              have hd := of_decide_eq_true hd
              subst hd
              cases h
              obtain ⟨r, hr1, hr2⟩ := (okE _ _ he).1 (by
                obtain ⟨r', hr', -⟩ := hR.2.1 _ _ (mm_at hR hq2)
                rw [hr']
                exact fun q => by cases q)
              exact mm_aast_ok hx hb hK hR hq hr1 hq2 hr2 hX.1 hdg (fun H' i r => kk _ _ _ _ _ _ _ _ hX.2 r (hset _ _))
            · cases h; exact hX.elim
          · cases h; exact hX.elim
        · rename_i hq2
          split at h
          · rename_i cj he
            split at h
            · rename_i hd
              have hd := of_decide_eq_true hd
              subst hd
              cases h
              obtain ⟨hr1, hr2⟩ := (okE _ _ he).2 rfl
              exact mm_aasA_ok hx hb hK hR hq hr1 hq2 (okT .int _ _ rfl).1 (hts _ hr2) hX.1 hdg (fun H' i r => kk _ _ _ _ _ _ _ _ hX.2 r (hset _ _))
            · cases h; exact hX.elim
          · cases h; exact hX.elim
        · cases h; exact hX.elim
      · cases h; exact hX.elim
    · cases h; exact hX.elim
  · split at h
    · cases h
      exact va_slen (A := fun q => z ≤ q) (b := b 0) hx hb hR.2.2.2.1 (by have := hR.2.2.2.2.1.1; have := hR.2.2.2.2.2; omega) (by have := hR.2.2.2.2.1.1; show ¬ z ≤ b 0; omega) hR.2.2.1 hdg (kk _ _ _ _ _ _ _ _ hX hR hcnt)
    · split at h
      · rename_i t a hq
        split at h
        · rename_i hd
          have hd := of_decide_eq_true hd
          cases h
          obtain ⟨y, hy⟩ : ∃ y, tyl[t]? = some y := ⟨tyl[t]'(by rw [okn]; exact hd), List.getElem?_eq_getElem (by rw [okn]; exact hd)⟩
          refine va_alen hx hb hK hR.2.1 _ t (mm_at hR hq) (mm_ty hK hy) ?_ hdg (kk _ _ _ _ _ _ _ _ hX hR hcnt)
          obtain ⟨n, f | f | f | f | f⟩ := a <;> rfl
        · cases h; exact hX.elim
      · cases h; exact hX.elim
    · cases h; exact hX.elim
  · rename_i y
    split at h
    · rename_i x r
      split at h
      · rename_i t a0 hn
        cases h
        obtain ⟨⟨x1, x2, x3, x4⟩, x5⟩ := hX
        obtain ⟨t1, t2⟩ := okT _ _ _ hn
        refine mm_newa_ok hx hb hts hK hR t1 t2 (a0 := a0 x.toNatClampNeg) ?_ x1 rfl ?_ (by omega) (by omega) (by omega) hdg (fun H' r => kk _ _ _ _ _ _ _ _ x5 r ⟨by rw [List.length_append]; show cells + 1 + gl0 = g.length + 1; omega, by omega, by rw [List.length_append]; show g.length + 1 ≤ mm_CM P; omega, by omega⟩)
        · intro cA
          unfold mm_nt at hn
          split at hn <;> first | (cases hn; done) | (cases hn; rfl)
        · have : componentBytes (newarray.typeOf y) ≤ 8 := by cases y <;> decide
          calc x.toNatClampNeg * componentBytes (newarray.typeOf y) ≤ 1000000 * 8 := Nat.mul_le_mul x2 this
            _ ≤ 536870912 := by decide
      · cases h; exact hX.elim
    · cases h; exact hX.elim
  · split at h
    · split at h
      · rename_i t hn
        cases h
        obtain ⟨⟨x1, x2, x3, x4⟩, x5⟩ := hX
        rcases okA _ _ _ hn with ⟨C, t1, t2, t3⟩ | ⟨y, t1, t2, t3⟩
        · exact mm_newq_ok hx hb hts hown hK hR t1 t2 t3 x1 rfl (by omega) (by omega) (by omega) (by omega) hdg (fun H' r => kk _ _ _ _ _ _ _ _ x5 r ⟨by rw [List.length_append]; show cells + 1 + gl0 = g.length + 1; omega, by omega, by rw [List.length_append]; show g.length + 1 ≤ mm_CM P; omega, by omega⟩)
        · exact mm_newqa_ok hx hb hts hown hK hR t1 t2 t3 x1 rfl (by omega) (by omega) (by omega) (by omega) hdg (fun H' r => kk _ _ _ _ _ _ _ _ x5 r ⟨by rw [List.length_append]; show cells + 1 + gl0 = g.length + 1; omega, by omega, by rw [List.length_append]; show g.length + 1 ≤ mm_CM P; omega, by omega⟩)
      · cases h; exact hX.elim
    · cases h; exact hX.elim
  · split at h
    · rename_i ci dv hn
      cases h
      obtain ⟨⟨x1, x2⟩, x3⟩ := hX
      obtain ⟨C, T, N, n1, n2, n3, n4, n5, n6, n7⟩ := okN _ _ _ _ hn
      obtain ⟨o1, o2, o3, o4⟩ := okC _ _ _ _ n1
      subst n5
      exact mm_new_ok (ft := fun j => (mm_ft P ci j).1) hx hb hts o1 hown hK hR n1 (fun j hj => (o2 j hj).1) n2 n3 n4 (by rw [mm_dv n6]; exact n7) (by omega) (by omega) (by omega) hdg (fun H' r => kk _ _ _ _ _ _ _ _ x3 r ⟨by rw [List.length_append]; show cells + 1 + gl0 = g.length + 1; omega, by omega, by rw [List.length_append]; show g.length + 1 ≤ mm_CM P; omega, by omega⟩)
    · cases h; exact hX.elim
  · split at h
    · rename_i v hn
      cases h
      exact lv_ldc hx hb hown (hts _ (okI _ _ _ hn)) hdg (kk _ _ _ _ _ _ _ _ hX hR hcnt)
    · cases h; exact hX.elim
  · split at h
    · rename_i v hn
      cases h
      exact lv_ldcw hx hb hown (hts _ (okI _ _ _ hn)) hdg (kk _ _ _ _ _ _ _ _ hX hR hcnt)
    · cases h; exact hX.elim
  · split at h
    · rename_i v hn
      cases h
      exact lv_ldc2 hx hb hown (hts _ (okL _ _ _ hn)) hdg (kk _ _ _ _ _ _ _ _ hX hR hcnt)
    · cases h; exact hX.elim
  · cases h
end MmS2

/-! THE SMALL MACHINE: a method's run is a Prop. -/
abbrev mm_O : Type := Option Value ⊕ (Nat × Nat)
abbrev mm_K : Type := mm_O → List va_E → Nat → Prop
def mm_look : List (Nat × Instr) → Nat → Option Instr
  | [], _ => none
  | q :: r, pc => if q.1 = pc then some q.2 else mm_look r pc
theorem mm_look_mem {pc : Nat} {ins : Instr} : ∀ {l : List (Nat × Instr)}, mm_look l pc = some ins → (pc, ins) ∈ l
  | [], h => by simp [mm_look] at h
  | q :: r, h => by
    unfold mm_look at h
    split at h
    · rename_i hq
      cases h
      subst hq
      exact List.mem_cons_self
    · exact List.mem_cons_of_mem _ (mm_look_mem h)
/-- so many values off the stack, in the order of a call's -/
def mm_take : Nat → List Value → List Value → Option (List Value × List Value)
  | 0, as, st => some (as, st)
  | _ + 1, _, [] => none
  | n + 1, as, v :: st => mm_take n (v :: as) st
theorem mm_take_ok : ∀ (n : Nat) (as st as' r : List Value), mm_take n as st = some (as', r) → ∃ bs, as' = bs ++ as ∧ bs.length = n ∧ st = bs.reverse ++ r
  | 0, as, st, as', r, h => by
    simp only [mm_take, Option.some.injEq, Prod.mk.injEq] at h
    exact ⟨[], by simp [h.1], rfl, by simp [h.2]⟩
  | n + 1, as, [], as', r, h => by simp [mm_take] at h
  | n + 1, as, v :: st, as', r, h => by
    obtain ⟨bs, h1, h2, h3⟩ := mm_take_ok n (v :: as) st as' r h
    exact ⟨bs ++ [v], by simp [h1], by simp [h2], by simp [h3]⟩
def mm_cats (st : List Value) : Nat := (st.map fun v => v.category).sum
theorem mm_cats_S (A : Nat → Nat) (st : List Value) : ((mm_S A st).map fun v => v.category).sum = mm_cats st := by
  simp only [mm_S, mm_cats, List.map_map]
  congr 1
  exact List.map_congr_left (fun v _ => mm_cat A v)
/-- does the receiver fit a call: its class is the method's -/
def mm_recv (P : mm_P) (k' : Nat) (as : List Value) (g : List va_E) : Bool := match as with
  | .ref (q + 1) :: _ => match g[q]? with
    | some (.inr (ci, _)) => decide (ci = mm_kc P k')
    | _ => false
  | _ => false
def mm_isref : List Value → Bool
  | .ref _ :: _ => true
  | _ => false
def mm_isS : List Value → Bool
  | .ref q :: _ => decide (q = 1000003)
  | _ => false
abbrev mm_Call : Type := Nat → List Value → List va_E → Nat → mm_K → Prop
/-- what is done behind a call -/
def mm_back (P : mm_P) (k : Nat) (nx : Nat → List Value → List va_E → Nat → Prop) (Q : mm_K) (pc : Nat) (r : List Value) : mm_K := fun o g sl => match o with
  | .inl v => nx (pc + 3) (v.toList ++ r) g sl
  | .inr x => match mm_kh P k pc x.1 with
    | some h => h ≠ 999999 ∧ nx h [.ref x.2] g sl
    | none => Q (.inr x) g sl
def mm_s3 (P : mm_P) (call : mm_Call) (k : Nat) (nx : Nat → List Value → List va_E → Nat → Prop) (Q : mm_K) (ins : Instr) (pc : Nat) (st : List Value) (g : List va_E) (sl : Nat) : Prop :=
  match ins with
  | .ireturn => match st with
    | [.int x] => match mm_kr P k with
      | some .int => Q (.inl (some (.int x))) g sl
      | some ty => narrow ty (.int x) = .int x ∧ Q (.inl (some (.int x))) g sl
      | none => False
    | _ => False
  | .lreturn => match st with
    | [.long x] => match mm_kr P k with
      | some .long => Q (.inl (some (.long x))) g sl
      | _ => False
    | _ => False
  | .areturn => match st with
    | [v] => match mm_kind 2 v with
      | true => match mm_kr P k with
        | some (.object _) => Q (.inl (some v)) g sl
        | some (.array _) => Q (.inl (some v)) g sl
        | _ => False
      | false => False
    | _ => False
  | .return_ => match st with
    | [] => match mm_kr P k with
      | none => Q (.inl none) g sl
      | some _ => False
    | _ => False
  | .invokestatic i => match mm_ml P (mm_kc P k) i with
    | some (k', na, 0) => match mm_take na [] st with
      | some (as, r) => match decide (mm_cats r + mm_kl P k' + 11 ≤ 64 ∧ mm_cats as ≤ mm_kl P k') with
        | true => call k' as g sl (mm_back P k nx Q pc r)
        | false => False
      | none => False
    | some (k', na, 5) => match mm_take na [] st with
      | some (as, r) => match decide (mm_cats r + mm_kl P k' + 11 ≤ 64 ∧ mm_cats as ≤ mm_kl P k') with
        | true => call k' as g sl (mm_back P k nx Q pc r)
        | false => False
      | none => False
    | some (_, _, 4) => match st with
      | .int n :: .int dp :: .ref (q2 + 1) :: .int sp :: .ref (q1 + 1) :: r => match g[q1]? with
        | some (.inl (1, n1, .inr (.inl f1))) => match g[q2]? with
          | some (.inl (1, n2, .inr (.inl f2))) => match decide (mm_cats r ≤ 24) with
            | true => (¬ sp < 0 ∧ ¬ dp < 0 ∧ ¬ n < 0 ∧ sp.toNatClampNeg + n.toNatClampNeg ≤ n1 ∧ dp.toNatClampNeg + n.toNatClampNeg ≤ n2) ∧ nx (pc + 3) r (g.set q2 (.inl (1, n2, .inr (.inl (va_cpy f1 f2 sp.toNatClampNeg dp.toNatClampNeg n.toNatClampNeg))))) sl
            | false => False
          | _ => False
        | _ => False
      | _ => False
    | _ => False
  | .invokevirtual i => match mm_ml P (mm_kc P k) i with
    | some (k', na, 1) => match mm_take na [] st with
      | some (as, r) => match decide (mm_cats r + mm_kl P k' + 11 ≤ 64 ∧ mm_cats as ≤ mm_kl P k') && mm_recv P k' as g with
        | true => call k' as g sl (mm_back P k nx Q pc r)
        | false => False
      | none => False
    | some (k', na, 7) => match mm_take na [] st with
      | some (as, r) => match decide (mm_cats r + mm_kl P k' + 11 ≤ 64 ∧ mm_cats as ≤ mm_kl P k') && mm_isS as with
        | true => call k' as g sl (mm_back P k nx Q pc r)
        | false => False
      | none => False
    | _ => False
  | .invokespecial i => match mm_ml P (mm_kc P k) i with
    | some (k', na, 2) => match mm_take na [] st with
      | some (as, r) => match decide (mm_cats r + mm_kl P k' + 11 ≤ 64 ∧ mm_cats as ≤ mm_kl P k') && mm_isref as with
        | true => call k' as g sl (mm_back P k nx Q pc r)
        | false => False
      | none => False
    | some (_, _, 3) => match st with
      | .ref _ :: r => match decide (mm_cats r + 12 ≤ 64) with
        | true => nx (pc + 3) r g sl
        | false => False
      | _ => False
    | _ => False
  | _ => False
def mm_lks (x : Int) : List (Int × Nat) → (Nat → Prop) → Prop → Prop
  | [], _, d => d
  | (a, t) :: r, p, d => (x = a → p t) ∧ (¬ x = a → mm_lks x r p d)
/-- the states of a run, as what holds of them -/
abbrev mm_Z : Type := Nat → List (Nat × Value) → List Value → List va_E → Nat → Prop
/-- one step: Z must hold behind it -/
def mm_z (P : mm_P) (eX : Nat → Nat × (Nat → Int32)) (call : mm_Call) (k : Nat) (Z : mm_Z) (Q : mm_K) (pc : Nat) (ls : List (Nat × Value)) (st : List Value) (g : List va_E) (sl : Nat) : Prop :=
  match mm_xt P k pc with
  | some ci => (g.length + 1 ≤ mm_CM P ∧ sl + 6 ≤ mm_SM P ∧ mm_cats st ≤ 8) ∧ Q (.inr (ci, g.length + 1)) (g ++ [.inr (ci, [])]) (sl + 6)
  | none =>
  match mm_sw P k pc with
  | some (lo, dt, ts) => match st with
    | .int x :: r => ((x.toInt < lo ∨ lo + (ts.length : Int) - 1 < x.toInt) → Z dt ls r g sl) ∧ ∀ (i t : Nat), ts[i]? = some t → x.toInt = lo + (i : Int) → Z t ls r g sl
    | _ => False
  | none =>
  match mm_lk P k pc with
  | some (dt, ps) => match st with
    | .int x :: r => mm_lks x.toInt ps (fun t => Z t ls r g sl) (Z dt ls r g sl)
    | _ => False
  | none =>
  match mm_gs P k pc with
  | some (j, _, 0, _) => Z (pc + 4) ls (.int (Int32.ofNat (eX (j + 1)).1) :: st) g sl
  | some (j, _, i + 1, w) => match mm_get ls i with
    | some (.int x) => vp_in x (eX (j + 1)).1 ∧ Z (pc + 3 + w + 1) ls (.int ((eX (j + 1)).2 x.toNatClampNeg) :: st) g sl
    | _ => False
  | none =>
  match mm_xs P k pc with
  | some (0, _) => Z (pc + 2) ls (.ref 1000003 :: st) g sl
  | some (1, _) => match st with
    | .ref q :: r => match decide (q = 1000003) with
      | true => Z (pc + 3) ls (.ref 1000004 :: r) g sl
      | false => False
    | _ => False
  | some (2, _) => match st with
    | .ref q :: r => match decide (q = 1000003) with
      | true => Z (pc + 3) ls (.int 0 :: r) g sl
      | false => False
    | _ => False
  | some (3, _) => match st with
    | .int x :: .ref q :: r => match decide (q = 1000004) with
      | true => vp_in x (eX 4).1 ∧ Z (pc + 1) ls (.int ((eX 4).2 x.toNatClampNeg) :: r) g sl
      | false => False
    | _ => False
  | some (4, _) => match st with
    | .ref q :: r => match decide (q = 1000004) with
      | true => Z (pc + 1) ls (.int (Int32.ofNat (eX 4).1) :: r) g sl
      | false => False
    | _ => False
  | some (_, c) => Z (pc + 3) ls (.int (Int32.ofNat c) :: st) g sl
  | none =>
  match mm_look (mm_kd P k) pc with
  | none => False
  | some ins =>
  match mm_s1 (mm_kl P k) (fun pc ls st => Z pc ls st g sl) ins pc ls st with
  | some X => X
  | none =>
  match mm_s2 P k eX (fun pc st g sl => Z pc ls st g sl) ins pc st g sl with
  | some X => X
  | none => mm_s3 P call k (fun pc st g sl => Z pc ls st g sl) Q ins pc st g sl
/-- a run that ends in Q: the least that holds where one step leads to it -/
def mm_l (P : mm_P) (eX : Nat → Nat × (Nat → Int32)) (call : mm_Call) (k : Nat) (Q : mm_K) : mm_Z := fun pc ls st g sl =>
  ∀ Z : mm_Z, (∀ pc ls st g sl, mm_z P eX call k Z Q pc ls st g sl → Z pc ls st g sl) → Z pc ls st g sl
def mm_call (P : mm_P) (eX : Nat → Nat × (Nat → Int32)) : Nat → mm_Call
  | 0 => fun _ _ _ _ _ => False
  | d + 1 => fun k as g sl Q => mm_l P eX (mm_call P eX d) k Q 0 (lv_args 0 as) [] g sl

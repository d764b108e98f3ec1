/-! THE SAME MACHINE, which forces its state at each step: so that Lean's own evaluation carries no heap of undone work along. -/
def mm_fn (n : Nat) (k : Nat → Prop) : Prop := match n with
  | 0 => k 0
  | m + 1 => k (m + 1)
theorem mm_fn_eq (n : Nat) (k : Nat → Prop) : mm_fn n k = k n := by cases n <;> rfl
def mm_fv (v : Value) (k : Value → Prop) : Prop := match v with
  | .ref n => mm_fn n (fun n => k (.ref n))
  | .int x => k (.int x)
  | .long x => k (.long x)
  | .null => k .null
  | v => k v
theorem mm_fv_eq (v : Value) (k : Value → Prop) : mm_fv v k = k v := by
  cases v <;> first | rfl | exact mm_fn_eq _ (fun n => k (.ref n))
def mm_fs : List Value → (List Value → Prop) → Prop
  | [], k => k []
  | v :: r, k => mm_fv v (fun v => mm_fs r (fun r => k (v :: r)))
theorem mm_fs_eq : ∀ (l : List Value) (k : List Value → Prop), mm_fs l k = k l
  | [], k => rfl
  | v :: r, k => by
    unfold mm_fs
    rw [mm_fv_eq, mm_fs_eq r]
def mm_fls : List (Nat × Value) → (List (Nat × Value) → Prop) → Prop
  | [], k => k []
  | (i, v) :: r, k => mm_fn i (fun i => mm_fv v (fun v => mm_fls r (fun r => k ((i, v) :: r))))
theorem mm_fls_eq : ∀ (l : List (Nat × Value)) (k : List (Nat × Value) → Prop), mm_fls l k = k l
  | [], k => rfl
  | (i, v) :: r, k => by
    unfold mm_fls
    rw [mm_fn_eq, mm_fv_eq, mm_fls_eq r]
def mm_fc (c : va_E) (k : va_E → Prop) : Prop := match c with
  | .inl (t, n, d) => mm_fn n (fun n => k (.inl (t, n, d)))
  | .inr o => k (.inr o)
theorem mm_fc_eq (c : va_E) (k : va_E → Prop) : mm_fc c k = k c := by
  unfold mm_fc
  split
  · exact mm_fn_eq _ _
  · rfl
def mm_fg : List va_E → (List va_E → Prop) → Prop
  | [], k => k []
  | c :: r, k => mm_fc c (fun c => mm_fg r (fun r => k (c :: r)))
theorem mm_fg_eq : ∀ (l : List va_E) (k : List va_E → Prop), mm_fg l k = k l
  | [], k => rfl
  | c :: r, k => by
    unfold mm_fg
    rw [mm_fc_eq, mm_fg_eq r]
def mm_fq : Nat → List va_E → (List va_E → Prop) → Prop
  | _, [], k => k []
  | 0, c :: r, k => match c with
    | .inr (ci, fs) => mm_fs fs (fun fs => k (.inr (ci, fs) :: r))
    | .inl a => k (.inl a :: r)
  | q + 1, c :: r, k => mm_fq q r (fun r => k (c :: r))
theorem mm_fq_eq : ∀ (q : Nat) (l : List va_E) (k : List va_E → Prop), mm_fq q l k = k l
  | 0, [], k => rfl
  | q + 1, [], k => rfl
  | 0, c :: r, k => by
    unfold mm_fq
    split
    · rw [mm_fs_eq]
    · rfl
  | q + 1, c :: r, k => by
    unfold mm_fq
    rw [mm_fq_eq q r]
/-- which cell an instruction changes: 0 none, 1 a new one, q + 2 the cell q -/
def mm_qi (ins : Instr) (st : List Value) : Nat := match ins with
  | .putfield _ => match st with
    | _ :: .ref (q + 1) :: _ => q + 2
    | _ => 0
  | .iastore | .lastore | .castore | .bastore | .aastore => match st with
    | _ :: _ :: .ref (q + 1) :: _ => q + 2
    | _ => 0
  | .new _ | .newarray _ | .anewarray _ => 1
  | _ => 0
def mm_fh (c : Nat) (g : List va_E) (k : List va_E → Prop) : Prop := match c with
  | 0 => k g
  | 1 => mm_fg g k
  | q + 2 => mm_fq q g k
theorem mm_fh_eq (c : Nat) (g : List va_E) (k : List va_E → Prop) : mm_fh c g k = k g := by
  unfold mm_fh
  split
  · rfl
  · exact mm_fg_eq _ _
  · exact mm_fq_eq _ _ _
/-- a switch, way by way -/
def mm_swl (x : Int) : Int → List Nat → (Nat → Prop) → Prop
  | _, [], _ => True
  | lo, t :: r, p => (x = lo → p t) ∧ mm_swl x (lo + 1) r p
theorem mm_swl_iff {x : Int} {p : Nat → Prop} : ∀ (ts : List Nat) (lo : Int), mm_swl x lo ts p ↔ ∀ (i t : Nat), ts[i]? = some t → x = lo + (i : Int) → p t
  | [], lo => ⟨fun _ i t h => by simp at h, fun _ => trivial⟩
  | t :: r, lo => by
    unfold mm_swl
    rw [mm_swl_iff r (lo + 1)]
    constructor
    · rintro ⟨h1, h2⟩ i t' ht hx
      cases i with
      | zero => cases ht; exact h1 (by omega)
      | succ i => exact h2 i t' (by simpa using ht) (by omega)
    · intro h
      exact ⟨fun hx => h 0 t rfl (by omega), fun i t' ht hx => h (i + 1) t' (by simpa using ht) (by omega)⟩
def mm_wE (P : mm_P) (Ln : Nat) (xs : Nat → Int32) (call : mm_Call) (k : Nat) : Nat → Nat → List (Nat × Value) → List Value → List va_E → Nat → mm_K → Prop
  | 0, _, _, _, _, _, _ => False
  | n + 1, pc, ls, st, g, sl, Q =>
    match mm_xt P k pc with
    | some ci => (g.length + 1 ≤ mm_CM P ∧ sl + 6 ≤ mm_SM P ∧ mm_cats st ≤ 8) ∧ mm_fn (g.length + 1) (fun p => mm_fg (g ++ [.inr (ci, [])]) (fun g => Q (.inr (ci, p)) g (sl + 6)))
    | none =>
    match mm_sw P k pc with
    | some (lo, dt, ts) => match st with
      | .int x :: r => ((x.toInt < lo ∨ lo + (ts.length : Int) - 1 < x.toInt) → mm_wE P Ln xs call k n dt ls r g sl Q) ∧ mm_swl x.toInt lo ts (fun t => mm_wE P Ln xs call k n t ls r g sl Q)
      | _ => False
    | none =>
    match mm_look (mm_kd P k) pc with
    | none => False
    | some ins =>
    match mm_s1 (mm_kl P k) (fun pc ls st => mm_fn pc (fun pc => mm_fls ls (fun ls => mm_fs st (fun st => mm_wE P Ln xs call k n pc ls st g sl Q)))) ins pc ls st with
    | some X => X
    | none =>
    match mm_s2 P k Ln xs (fun pc st' g sl => mm_fn pc (fun pc => mm_fn sl (fun sl => mm_fs st' (fun st' => mm_fh (mm_qi ins st) g (fun g => mm_wE P Ln xs call k n pc ls st' g sl Q))))) ins pc st g sl with
    | some X => X
    | none => mm_s3 P call k (fun pc st g sl => mm_fn pc (fun pc => mm_fn sl (fun sl => mm_fs st (fun st => mm_wE P Ln xs call k n pc ls st g sl Q)))) Q ins pc st g sl
theorem mm_wE_eq (P : mm_P) (Ln : Nat) (xs : Nat → Int32) (call : mm_Call) (k : Nat) : ∀ (n pc : Nat) (ls : List (Nat × Value)) (st : List Value) (g : List va_E) (sl : Nat) (Q : mm_K), mm_wE P Ln xs call k n pc ls st g sl Q = mm_w P Ln xs call k n pc ls st g sl Q
  | 0, _, _, _, _, _, _ => rfl
  | n + 1, pc, ls, st, g, sl, Q => by
    unfold mm_wE mm_w
    simp only [mm_fn_eq, mm_fls_eq, mm_fs_eq, mm_fg_eq, mm_fh_eq, mm_swl_iff, mm_wE_eq P Ln xs call k n]
    repeat (first | rfl | (split; skip))
/-- a call's values as locals -/
def mm_fa : Nat → List Value → (List (Nat × Value) → Prop) → Prop
  | _, [], k => k []
  | i, v :: r, k => mm_fv v (fun v => match v with
    | .long x => mm_fn (i + 2) (fun j => mm_fa j r (fun l => k ((i, .long x) :: l)))
    | .double x => mm_fn (i + 2) (fun j => mm_fa j r (fun l => k ((i, .double x) :: l)))
    | v => mm_fn (i + 1) (fun j => mm_fa j r (fun l => k ((i, v) :: l))))
theorem mm_fa_eq : ∀ (as : List Value) (i : Nat) (k : List (Nat × Value) → Prop), mm_fa i as k = k (lv_args i as)
  | [], i, k => rfl
  | v :: r, i, k => by
    unfold mm_fa lv_args
    rw [mm_fv_eq]
    split
    · rw [mm_fn_eq, mm_fa_eq r]; rfl
    · rw [mm_fn_eq, mm_fa_eq r]; rfl
    · rename_i h1 h2
      rw [mm_fn_eq, mm_fa_eq r]
      cases v <;> first | rfl | exact absurd rfl (h1 _) | exact absurd rfl (h2 _)
def mm_callE (P : mm_P) (Ln : Nat) (xs : Nat → Int32) : Nat → mm_Call
  | 0 => fun _ _ _ _ _ => False
  | d + 1 => fun k as g sl Q => ∃ n, mm_fa 0 as (fun ls => mm_wE P Ln xs (mm_callE P Ln xs d) k n 0 ls [] g sl Q)
theorem mm_callE_eq (P : mm_P) (Ln : Nat) (xs : Nat → Int32) : ∀ d, mm_callE P Ln xs d = mm_call P Ln xs d
  | 0 => rfl
  | d + 1 => by
    unfold mm_callE mm_call
    simp only [mm_fa_eq, mm_wE_eq, mm_callE_eq P Ln xs d]

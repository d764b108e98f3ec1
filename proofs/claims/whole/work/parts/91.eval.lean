/-! THE SAME MACHINE, which forces its state at each step: so that Lean's own evaluation carries no heap of undone work along. -/
def mm_fn (n : Nat) (k : Nat → Prop) : Prop := match n with
  | 0 => k 0
  | m + 1 => k (m + 1)
theorem mm_fn_eq (n : Nat) (k : Nat → Prop) : mm_fn n k = k n := by cases n <;> rfl
def mm_fv (v : Value) (k : Value → Prop) : Prop := match v with
  | .ref n => mm_fn n (fun n => k (.ref n))
  | .int x => k (.int x)
  | .long x => k (.long x)
  | .null => k .null
  | v => k v
theorem mm_fv_eq (v : Value) (k : Value → Prop) : mm_fv v k = k v := by
  cases v <;> first | rfl | exact mm_fn_eq _ (fun n => k (.ref n))
def mm_fs : List Value → (List Value → Prop) → Prop
  | [], k => k []
  | v :: r, k => mm_fv v (fun v => mm_fs r (fun r => k (v :: r)))
theorem mm_fs_eq : ∀ (l : List Value) (k : List Value → Prop), mm_fs l k = k l
  | [], k => rfl
  | v :: r, k => by
    unfold mm_fs
    rw [mm_fv_eq, mm_fs_eq r]
def mm_fls : List (Nat × Value) → (List (Nat × Value) → Prop) → Prop
  | [], k => k []
  | (i, v) :: r, k => mm_fn i (fun i => mm_fv v (fun v => mm_fls r (fun r => k ((i, v) :: r))))
theorem mm_fls_eq : ∀ (l : List (Nat × Value)) (k : List (Nat × Value) → Prop), mm_fls l k = k l
  | [], k => rfl
  | (i, v) :: r, k => by
    unfold mm_fls
    rw [mm_fn_eq, mm_fv_eq, mm_fls_eq r]
def mm_fc (c : va_E) (k : va_E → Prop) : Prop := match c with
  | .inl (t, n, d) => mm_fn n (fun n => k (.inl (t, n, d)))
  | .inr o => k (.inr o)
theorem mm_fc_eq (c : va_E) (k : va_E → Prop) : mm_fc c k = k c := by
  unfold mm_fc
  split
  · exact mm_fn_eq _ _
  · rfl
def mm_fg : List va_E → (List va_E → Prop) → Prop
  | [], k => k []
  | c :: r, k => mm_fc c (fun c => mm_fg r (fun r => k (c :: r)))
theorem mm_fg_eq : ∀ (l : List va_E) (k : List va_E → Prop), mm_fg l k = k l
  | [], k => rfl
  | c :: r, k => by
    unfold mm_fg
    rw [mm_fc_eq, mm_fg_eq r]
def mm_fq : Nat → List va_E → (List va_E → Prop) → Prop
  | _, [], k => k []
  | 0, c :: r, k => match c with
    | .inr (ci, fs) => mm_fs fs (fun fs => k (.inr (ci, fs) :: r))
    | .inl a => k (.inl a :: r)
  | q + 1, c :: r, k => mm_fq q r (fun r => k (c :: r))
theorem mm_fq_eq : ∀ (q : Nat) (l : List va_E) (k : List va_E → Prop), mm_fq q l k = k l
  | 0, [], k => rfl
  | q + 1, [], k => rfl
  | 0, c :: r, k => by
    unfold mm_fq
    split
    · rw [mm_fs_eq]
    · rfl
  | q + 1, c :: r, k => by
    unfold mm_fq
    rw [mm_fq_eq q r]
/-- which cell an instruction changes: 0 none, 1 a new one, q + 2 the cell q -/
def mm_qi (ins : Instr) (st : List Value) : Nat := match ins with
  | .putfield _ => match st with
    | _ :: .ref (q + 1) :: _ => q + 2
    | _ => 0
  | .iastore | .lastore | .castore | .bastore | .aastore => match st with
    | _ :: _ :: .ref (q + 1) :: _ => q + 2
    | _ => 0
  | .new _ | .newarray _ | .anewarray _ => 1
  | _ => 0
def mm_fh (c : Nat) (g : List va_E) (k : List va_E → Prop) : Prop := match c with
  | 0 => k g
  | 1 => mm_fg g k
  | q + 2 => mm_fq q g k
theorem mm_fh_eq (c : Nat) (g : List va_E) (k : List va_E → Prop) : mm_fh c g k = k g := by
  unfold mm_fh
  split
  · rfl
  · exact mm_fg_eq _ _
  · exact mm_fq_eq _ _ _
/-- a switch, way by way -/
def mm_swl (x : Int) : Int → List Nat → (Nat → Prop) → Prop
  | _, [], _ => True
  | lo, t :: r, p => (x = lo → p t) ∧ mm_swl x (lo + 1) r p
theorem mm_swl_iff {x : Int} {p : Nat → Prop} : ∀ (ts : List Nat) (lo : Int), mm_swl x lo ts p ↔ ∀ (i t : Nat), ts[i]? = some t → x = lo + (i : Int) → p t
  | [], lo => ⟨fun _ i t h => by simp at h, fun _ => trivial⟩
  | t :: r, lo => by
    unfold mm_swl
    rw [mm_swl_iff r (lo + 1)]
    constructor
    · rintro ⟨h1, h2⟩ i t' ht hx
      cases i with
      | zero => cases ht; exact h1 (by omega)
      | succ i => exact h2 i t' (by simpa using ht) (by omega)
    · intro h
      exact ⟨fun hx => h 0 t rfl (by omega), fun i t' ht hx => h (i + 1) t' (by simpa using ht) (by omega)⟩
/-- a call's values as locals -/
def mm_fa : Nat → List Value → (List (Nat × Value) → Prop) → Prop
  | _, [], k => k []
  | i, v :: r, k => mm_fv v (fun v => match v with
    | .long x => mm_fn (i + 2) (fun j => mm_fa j r (fun l => k ((i, .long x) :: l)))
    | .double x => mm_fn (i + 2) (fun j => mm_fa j r (fun l => k ((i, .double x) :: l)))
    | v => mm_fn (i + 1) (fun j => mm_fa j r (fun l => k ((i, v) :: l))))
theorem mm_fa_eq : ∀ (as : List Value) (i : Nat) (k : List (Nat × Value) → Prop), mm_fa i as k = k (lv_args i as)
  | [], i, k => rfl
  | v :: r, i, k => by
    unfold mm_fa lv_args
    rw [mm_fv_eq]
    split
    · rw [mm_fn_eq, mm_fa_eq r]; rfl
    · rw [mm_fn_eq, mm_fa_eq r]; rfl
    · rename_i h1 h2
      rw [mm_fn_eq, mm_fa_eq r]
      cases v <;> first | rfl | exact absurd rfl (h1 _) | exact absurd rfl (h2 _)

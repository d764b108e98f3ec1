section
/-! A SMALL MACHINE whose runs are Props that Lean computes: a state is a list of locals, a stack, a list of cells by their POSITIONS (0: the script; the others in the order of their making); mm_ words are mine. -/
/-- a position's address: the script's cell b, or the cell that was made as the k-th since the heap had z cells -/
def mm_A (b z : Nat) : Nat → Nat
  | 0 => b
  | k + 1 => z + k
def mm_v (A : Nat → Nat) : Value → Value
  | .ref p => .ref (A p)
  | v => v
def mm_L (A : Nat → Nat) (ls : List (Nat × Value)) : List (Nat × Value) := ls.map (fun q => (q.1, mm_v A q.2))
def mm_S (A : Nat → Nat) (st : List Value) : List Value := st.map (mm_v A)
theorem mm_cat (A : Nat → Nat) (v : Value) : (mm_v A v).category = v.category := by cases v <;> rfl
def mm_get : List (Nat × Value) → Nat → Option Value
  | [], _ => none
  | q :: r, i => if q.1 = i then some q.2 else mm_get r i
theorem mm_get_mem {i : Nat} {v : Value} : ∀ {ls : List (Nat × Value)}, mm_get ls i = some v → (i, v) ∈ ls
  | [], h => by simp [mm_get] at h
  | q :: r, h => by
    unfold mm_get at h
    split at h
    · rename_i hq
      cases h
      subst hq
      exact List.mem_cons_self
    · exact List.mem_cons_of_mem _ (mm_get_mem h)
theorem mm_get_has {A : Nat → Nat} {L : Array Slot} {nL i : Nat} {v : Value} {ls : List (Nat × Value)} (hl : lv_has L nL (mm_L A ls)) (h : mm_get ls i = some v) : L[i]? = some (.val (mm_v A v)) :=
  hl.2.2 (i, mm_v A v) (List.mem_map.mpr ⟨(i, v), mm_get_mem h, rfl⟩)
def mm_set1 (ls : List (Nat × Value)) (i : Nat) (v : Value) : List (Nat × Value) := (i, v) :: ls.filter (fun q => !(q.1 == i) && !(q.1 + 1 == i && q.2.category == 2))
def mm_set2 (ls : List (Nat × Value)) (i : Nat) (v : Value) : List (Nat × Value) := (i, v) :: ls.filter (fun q => !(q.1 == i) && (!(q.1 == i + 1) && !(q.1 + 1 == i && q.2.category == 2)))
theorem mm_filter (A : Nat → Nat) (P : Nat → Nat → Bool) : ∀ ls : List (Nat × Value), (mm_L A ls).filter (fun q => P q.1 q.2.category) = mm_L A (ls.filter (fun q => P q.1 q.2.category))
  | [] => rfl
  | q :: r => by
    have ih := mm_filter A P r
    simp only [mm_L, List.map_cons, List.filter_cons, mm_cat] at ih ⊢
    split
    · rw [List.map_cons, ih]
    · exact ih
theorem mm_set1_L (A : Nat → Nat) (ls : List (Nat × Value)) (i : Nat) (v : Value) : (i, mm_v A v) :: (mm_L A ls).filter (fun q => !(q.1 == i) && !(q.1 + 1 == i && q.2.category == 2)) = mm_L A (mm_set1 ls i v) := by
  have h := mm_filter A (fun a c => !(a == i) && !(a + 1 == i && c == 2)) ls
  simp only [mm_set1, mm_L, List.map_cons] at h ⊢
  rw [h]
theorem mm_set2_L (A : Nat → Nat) (ls : List (Nat × Value)) (i : Nat) (v : Value) : (i, mm_v A v) :: (mm_L A ls).filter (fun q => !(q.1 == i) && (!(q.1 == i + 1) && !(q.1 + 1 == i && q.2.category == 2))) = mm_L A (mm_set2 ls i v) := by
  have h := mm_filter A (fun a c => !(a == i) && (!(a == i + 1) && !(a + 1 == i && c == 2))) ls
  simp only [mm_set2, mm_L, List.map_cons] at h ⊢
  rw [h]
-- the instructions, in groups
def mm_con : Instr → Option (Value × Nat)
  | .iconst n => some (.int (Int32.ofInt n), 1)
  | .bipush n => some (.int (Int8.ofInt n).toInt32, 2)
  | .sipush n => some (.int (Int16.ofInt n).toInt32, 3)
  | .lconst n => some (.long (Int64.ofNat (n : Nat)), 1)
  | .aconst_null => some (.null, 1)
  | _ => none
/-- a load: which local, its length, its kind (0 int, 1 long, 2 a reference) -/
def mm_ld : Instr → Option (Nat × Nat × Nat)
  | .iload_n k => some ((k : Nat), 1, 0)
  | .iload i => some (i, 2, 0)
  | .lload_n k => some ((k : Nat), 1, 1)
  | .lload i => some (i, 2, 1)
  | .aload_n k => some ((k : Nat), 1, 2)
  | .aload i => some (i, 2, 2)
  | _ => none
def mm_sto : Instr → Option (Nat × Nat × Nat)
  | .istore_n k => some ((k : Nat), 1, 0)
  | .istore i => some (i, 2, 0)
  | .lstore_n k => some ((k : Nat), 1, 1)
  | .lstore i => some (i, 2, 1)
  | .astore_n k => some ((k : Nat), 1, 2)
  | .astore i => some (i, 2, 2)
  | _ => none
def mm_kind : Nat → Value → Bool
  | 0, .int _ => true
  | 1, .long _ => true
  | 2, .ref _ => true
  | 2, .null => true
  | _, _ => false
def mm_bin : Instr → Option (Int32 → Int32 → Int32)
  | .iadd => some (fun x y => x + y)
  | .isub => some (fun x y => x - y)
  | .imul => some (fun x y => x * y)
  | .iand => some (fun x y => x &&& y)
  | .ior => some (fun x y => x ||| y)
  | .ixor => some (fun x y => x ^^^ y)
  | .ishl => some (fun x y => x <<< (y &&& 31))
  | .ishr => some (fun x y => x >>> (y &&& 31))
  | .iushr => some (fun x y => (x.toUInt32 >>> (y.toUInt32 &&& Int32.toUInt32 31)).toInt32)
  | _ => none
def mm_binL : Instr → Option (Int64 → Int64 → Int64)
  | .ladd => some (fun x y => x + y)
  | .lsub => some (fun x y => x - y)
  | .lmul => some (fun x y => x * y)
  | .land => some (fun x y => x &&& y)
  | .lor => some (fun x y => x ||| y)
  | .lxor => some (fun x y => x ^^^ y)
  | _ => none
def mm_un : Instr → Value → Option Value
  | .ineg, .int x => some (.int (-x))
  | .i2c, .int x => some (.int (x.toUInt32 % 65536).toInt32)
  | .i2b, .int x => some (.int x.toInt8.toInt32)
  | .i2s, .int x => some (.int x.toInt16.toInt32)
  | .i2l, .int x => some (.long x.toInt64)
  | .l2i, .long x => some (.int x.toInt32)
  | .lneg, .long x => some (.long (-x))
  | _, _ => none
/-- a division: the divisor is not 0 -/
def mm_div : Instr → Option (Int32 → Int32 → Int32)
  | .idiv => some (fun x y => x / y)
  | .irem => some (fun x y => x - x / y * y)
  | _ => none
def mm_divL : Instr → Option (Int64 → Int64 → Int64)
  | .ldiv => some (fun x y => x / y)
  | .lrem => some (fun x y => x - x / y * y)
  | _ => none
def mm_stk : Instr → List Value → Option (List Value)
  | .dup, a :: r => if a.category = 1 then some (a :: a :: r) else none
  | .pop, a :: r => if a.category = 1 then some r else none
  | .dup_x1, a :: b :: r => if a.category = 1 ∧ b.category = 1 then some (a :: b :: a :: r) else none
  | .dup_x2, a :: b :: d :: r => if a.category = 1 ∧ b.category = 1 ∧ d.category = 1 then some (a :: b :: d :: a :: r) else none
  | .dup2, a :: r => if a.category = 2 then some (a :: a :: r) else match r with
    | b :: r => if a.category = 1 ∧ b.category = 1 then some (a :: b :: a :: b :: r) else none
    | [] => none
  | .pop2, a :: r => if a.category = 2 then some r else none
  | .dup2_x1, a :: b :: r => if a.category = 2 ∧ b.category = 1 then some (a :: b :: a :: r) else none
  | .dup2_x2, a :: b :: d :: r => if a.category = 2 ∧ b.category = 1 ∧ d.category = 1 then some (a :: b :: d :: a :: r) else none
  | _, _ => none
/-- a branch on ints: the condition, the offset, the rest -/
def mm_br : Instr → List Value → Option (Prop × Int × List Value)
  | .ifCond .eq o, .int x :: r => some (x = 0, o, r)
  | .ifCond .ne o, .int x :: r => some (¬ x = 0, o, r)
  | .ifCond .lt o, .int x :: r => some (x < 0, o, r)
  | .ifCond .ge o, .int x :: r => some (0 ≤ x, o, r)
  | .ifCond .gt o, .int x :: r => some (0 < x, o, r)
  | .ifCond .le o, .int x :: r => some (x ≤ 0, o, r)
  | .if_icmp .eq o, .int y :: .int x :: r => some (x = y, o, r)
  | .if_icmp .ne o, .int y :: .int x :: r => some (¬ x = y, o, r)
  | .if_icmp .lt o, .int y :: .int x :: r => some (x < y, o, r)
  | .if_icmp .ge o, .int y :: .int x :: r => some (y ≤ x, o, r)
  | .if_icmp .gt o, .int y :: .int x :: r => some (y < x, o, r)
  | .if_icmp .le o, .int y :: .int x :: r => some (x ≤ y, o, r)
  | _, _ => none
section MmPure
variable {p : Program} {l : Launch} {e : Env} {R : Room} {s : State} {m : MethodId} {args : Array Value} {below : List Frame} {meth : Method} {c : Code} {H : Heap} {locs : List Loc} {cells slots : Nat} {Q : State → Prop} {cc : ByteArray} {pc : Nat} {ins : Instr} {L : Array Slot} {nL : Nat} {A : Nat → Nat} {ls : List (Nat × Value)} {rest : List Value}
theorem mm_con_ok (hx : p.tables.exec = Jvm.exec) (hb : c.code = cc) {v : Value} {len : Nat} (h : mm_con ins = some (v, len)) (hdg : decode cc pc = .ok (ins, len))
    (k : W p l e R s m args below meth c H locs cells slots Q (F0 m (pc + len) L (mm_v A v :: rest))) : W p l e R s m args below meth c H locs cells slots Q (F0 m pc L rest) := by
  unfold mm_con at h
  split at h
  · cases h; exact lv_iconst hx hb hdg rfl k
  · cases h; exact lv_bipush hx hb hdg rfl k
  · cases h; exact lv_sipush hx hb hdg rfl k
  · cases h; exact lv_lconst hx hb hdg rfl k
  · cases h; exact lv_null hx hb hdg k
  · cases h
theorem mm_ld_ok (hx : p.tables.exec = Jvm.exec) (hb : c.code = cc) {i len kd : Nat} {v : Value} (h : mm_ld ins = some (i, len, kd)) (hv : L[i]? = some (.val (mm_v A v))) (hk : mm_kind kd v = true) (hdg : decode cc pc = .ok (ins, len))
    (k : W p l e R s m args below meth c H locs cells slots Q (F0 m (pc + len) L (mm_v A v :: rest))) : W p l e R s m args below meth c H locs cells slots Q (F0 m pc L rest) := by
  unfold mm_ld at h
  split at h
  · cases h; unfold mm_kind at hk; split at hk <;> first | (cases hk; done) | (rename_i h1; cases h1; done) | exact lv_iload_n hx hb hdg rfl hv k
  · cases h; unfold mm_kind at hk; split at hk <;> first | (cases hk; done) | (rename_i h1; cases h1; done) | exact lv_iload hx hb hdg hv k
  · cases h; unfold mm_kind at hk; split at hk <;> first | (cases hk; done) | (rename_i h1; cases h1; done) | exact lv_lload_n hx hb hdg rfl hv k
  · cases h; unfold mm_kind at hk; split at hk <;> first | (cases hk; done) | (rename_i h1; cases h1; done) | exact lv_lload hx hb hdg hv k
  · cases h; unfold mm_kind at hk; split at hk <;> first | (cases hk; done) | (rename_i h1; cases h1; done) | exact lv_aload_n hx hb hdg rfl hv k | exact lv_aload_nN hx hb hdg rfl hv k
  · cases h; unfold mm_kind at hk; split at hk <;> first | (cases hk; done) | (rename_i h1; cases h1; done) | exact lv_aload hx hb hdg hv k | exact lv_aloadN hx hb hdg hv k
  · cases h
theorem mm_bin_ok (hx : p.tables.exec = Jvm.exec) (hb : c.code = cc) {f : Int32 → Int32 → Int32} {x y : Int32} (h : mm_bin ins = some f) (hdg : decode cc pc = .ok (ins, 1))
    (k : W p l e R s m args below meth c H locs cells slots Q (F0 m (pc + 1) L (.int (f x y) :: rest))) : W p l e R s m args below meth c H locs cells slots Q (F0 m pc L (.int y :: .int x :: rest)) := by
  unfold mm_bin at h
  split at h
  · cases h; exact lv_iadd hx hb hdg k
  · cases h; exact lv_isub hx hb hdg k
  · cases h; exact lv_imul hx hb hdg k
  · cases h; exact lv_iand hx hb hdg k
  · cases h; exact lv_ior hx hb hdg k
  · cases h; exact lv_ixor hx hb hdg k
  · cases h; exact lv_ishl hx hb hdg k
  · cases h; exact lv_ishr hx hb hdg k
  · cases h; exact lv_iushr hx hb hdg rfl k
  · cases h
theorem mm_binL_ok (hx : p.tables.exec = Jvm.exec) (hb : c.code = cc) {f : Int64 → Int64 → Int64} {x y : Int64} (h : mm_binL ins = some f) (hdg : decode cc pc = .ok (ins, 1))
    (k : W p l e R s m args below meth c H locs cells slots Q (F0 m (pc + 1) L (.long (f x y) :: rest))) : W p l e R s m args below meth c H locs cells slots Q (F0 m pc L (.long y :: .long x :: rest)) := by
  unfold mm_binL at h
  split at h
  · cases h; exact lv_ladd hx hb hdg k
  · cases h; exact lv_lsub hx hb hdg k
  · cases h; exact lv_lmul hx hb hdg k
  · cases h; exact lv_land hx hb hdg k
  · cases h; exact lv_lor hx hb hdg k
  · cases h; exact lv_lxor hx hb hdg k
  · cases h
theorem mm_un_ok (hx : p.tables.exec = Jvm.exec) (hb : c.code = cc) {v w : Value} (h : mm_un ins v = some w) (hdg : decode cc pc = .ok (ins, 1))
    (k : W p l e R s m args below meth c H locs cells slots Q (F0 m (pc + 1) L (mm_v A w :: rest))) : W p l e R s m args below meth c H locs cells slots Q (F0 m pc L (mm_v A v :: rest)) := by
  unfold mm_un at h
  split at h
  · cases h; exact lv_ineg hx hb hdg k
  · cases h; exact lv_i2c hx hb hdg rfl k
  · cases h; exact lv_i2b hx hb hdg rfl k
  · cases h; exact lv_i2s hx hb hdg rfl k
  · cases h; exact lv_i2l hx hb hdg rfl k
  · cases h; exact lv_l2i hx hb hdg rfl k
  · cases h; exact lv_lneg hx hb hdg k
  · cases h
theorem mm_div_ok (hx : p.tables.exec = Jvm.exec) (hb : c.code = cc) {f : Int32 → Int32 → Int32} {x y : Int32} (h : mm_div ins = some f) (hy : ¬ y = 0) (hdg : decode cc pc = .ok (ins, 1))
    (k : W p l e R s m args below meth c H locs cells slots Q (F0 m (pc + 1) L (.int (f x y) :: rest))) : W p l e R s m args below meth c H locs cells slots Q (F0 m pc L (.int y :: .int x :: rest)) := by
  unfold mm_div at h
  split at h
  · cases h; exact lv_idiv hx hb hdg hy k
  · cases h; exact lv_irem hx hb hdg hy k
  · cases h
theorem mm_divL_ok (hx : p.tables.exec = Jvm.exec) (hb : c.code = cc) {f : Int64 → Int64 → Int64} {x y : Int64} (h : mm_divL ins = some f) (hy : ¬ y = 0) (hdg : decode cc pc = .ok (ins, 1))
    (k : W p l e R s m args below meth c H locs cells slots Q (F0 m (pc + 1) L (.long (f x y) :: rest))) : W p l e R s m args below meth c H locs cells slots Q (F0 m pc L (.long y :: .long x :: rest)) := by
  unfold mm_divL at h
  split at h
  · cases h; exact lv_ldiv hx hb hdg hy k
  · cases h; exact lv_lrem hx hb hdg hy k
  · cases h
theorem mm_stk_ok (hx : p.tables.exec = Jvm.exec) (hb : c.code = cc) {st st' : List Value} (h : mm_stk ins st = some st') (hdg : decode cc pc = .ok (ins, 1))
    (k : W p l e R s m args below meth c H locs cells slots Q (F0 m (pc + 1) L (mm_S A st'))) : W p l e R s m args below meth c H locs cells slots Q (F0 m pc L (mm_S A st)) := by
  unfold mm_stk at h
  split at h
  · split at h
    · rename_i h1; cases h; exact lv_dup hx hb hdg (by rw [mm_cat]; exact h1) k
    · cases h
  · split at h
    · rename_i h1; cases h; exact lv_pop hx hb hdg (by rw [mm_cat]; exact h1) k
    · cases h
  · split at h
    · rename_i h1; cases h; exact lv_dup_x1 hx hb hdg (by rw [mm_cat]; exact h1.1) (by rw [mm_cat]; exact h1.2) k
    · cases h
  · split at h
    · rename_i h1; cases h; exact lv_dup_x2 hx hb hdg (by rw [mm_cat]; exact h1.1) (by rw [mm_cat]; exact h1.2.1) (by rw [mm_cat]; exact h1.2.2) k
    · cases h
  · split at h
    · rename_i h1; cases h; exact lv_dup2_2 hx hb hdg (by rw [mm_cat]; exact h1) k
    · split at h
      · split at h
        · rename_i h1; cases h; exact lv_dup2_11 hx hb hdg (by rw [mm_cat]; exact h1.1) (by rw [mm_cat]; exact h1.2) k
        · cases h
      · cases h
  · split at h
    · rename_i h1; cases h; exact lv_pop2_2 hx hb hdg (by rw [mm_cat]; exact h1) k
    · cases h
  · split at h
    · rename_i h1; cases h; exact lv_dup2_x1_2 hx hb hdg (by rw [mm_cat]; exact h1.1) (by rw [mm_cat]; exact h1.2) k
    · cases h
  · split at h
    · rename_i h1; cases h; exact lv_dup2_x2_2 hx hb hdg (by rw [mm_cat]; exact h1.1) (by rw [mm_cat]; exact h1.2.1) (by rw [mm_cat]; exact h1.2.2) k
    · cases h
  · cases h
theorem mm_br_ok (hx : p.tables.exec = Jvm.exec) (hb : c.code = cc) {st st' : List Value} {P : Prop} {o : Int} {tgt : Nat} (h : mm_br ins st = some (P, o, st')) (hdg : decode cc pc = .ok (ins, 3)) (ht : (pc : Int) + o = (tgt : Int))
    (kt : P → W p l e R s m args below meth c H locs cells slots Q (F0 m tgt L (mm_S A st'))) (kf : ¬ P → W p l e R s m args below meth c H locs cells slots Q (F0 m (pc + 3) L (mm_S A st'))) : W p l e R s m args below meth c H locs cells slots Q (F0 m pc L (mm_S A st)) := by
  unfold mm_br at h
  split at h
  · cases h; exact lv_if_eq hx hb hdg ht kt kf
  · cases h; exact lv_if_ne hx hb hdg ht kt (fun q => kf (fun n => n q))
  · cases h; exact lv_if_lt hx hb hdg ht kt kf
  · cases h; exact lv_if_ge hx hb hdg ht kt kf
  · cases h; exact lv_if_gt hx hb hdg ht kt kf
  · cases h; exact lv_if_le hx hb hdg ht kt kf
  · cases h; exact lv_icmp_eq hx hb hdg ht kt kf
  · cases h; exact lv_icmp_ne hx hb hdg ht kt (fun q => kf (fun n => n q))
  · cases h; exact lv_icmp_lt hx hb hdg ht kt kf
  · cases h; exact lv_icmp_ge hx hb hdg ht kt kf
  · cases h; exact lv_icmp_gt hx hb hdg ht kt kf
  · cases h; exact lv_icmp_le hx hb hdg ht kt kf
  · cases h
theorem mm_sto_ok (hx : p.tables.exec = Jvm.exec) (hb : c.code = cc) {i len kd : Nat} {v : Value} (h : mm_sto ins = some (i, len, kd)) (hk : mm_kind kd v = true) (hl : lv_has L nL (mm_L A ls)) (hn : i + 1 < nL ∨ (i < nL ∧ v.category = 1)) (hdg : decode cc pc = .ok (ins, len))
    (k : ∀ L', lv_has L' nL (mm_L A (if v.category = 2 then mm_set2 ls i v else mm_set1 ls i v)) → W p l e R s m args below meth c H locs cells slots Q (F0 m (pc + len) L' rest)) : W p l e R s m args below meth c H locs cells slots Q (F0 m pc L (mm_v A v :: rest)) := by
  have hi : i < nL := hn.elim (fun q => by omega) (fun q => q.1)
  have k1 : ∀ L', lv_has L' nL (mm_L A (mm_set1 ls i v)) → v.category = 1 → W p l e R s m args below meth c H locs cells slots Q (F0 m (pc + len) L' rest) := fun L' q q1 => k L' (by rw [if_neg (by omega)]; exact q)
  have k2 : ∀ L', lv_has L' nL (mm_L A (mm_set2 ls i v)) → v.category = 2 → W p l e R s m args below meth c H locs cells slots Q (F0 m (pc + len) L' rest) := fun L' q q1 => k L' (by rw [if_pos q1]; exact q)
  unfold mm_sto at h
  split at h
  · cases h; unfold mm_kind at hk; split at hk <;> first | (cases hk; done) | (rename_i h1; cases h1; done) | exact lv_istore_n hx hb hdg rfl hl hi (mm_set1_L A ls _ (.int _)) (fun L' q => k1 L' q rfl)
  · cases h; unfold mm_kind at hk; split at hk <;> first | (cases hk; done) | (rename_i h1; cases h1; done) | exact lv_istore hx hb hdg hl hi (mm_set1_L A ls _ (.int _)) (fun L' q => k1 L' q rfl)
  · cases h; unfold mm_kind at hk; split at hk <;> first | (cases hk; done) | (rename_i h1; cases h1; done) | exact lv_lstore_n hx hb hdg rfl hl (hn.elim (fun q => q) (fun q => by have := q.2; simp [Value.category] at this)) (mm_set2_L A ls _ (.long _)) (fun L' q => k2 L' q rfl)
  · cases h; unfold mm_kind at hk; split at hk <;> first | (cases hk; done) | (rename_i h1; cases h1; done) | exact lv_lstore hx hb hdg hl (hn.elim (fun q => q) (fun q => by have := q.2; simp [Value.category] at this)) (mm_set2_L A ls _ (.long _)) (fun L' q => k2 L' q rfl)
  · cases h; unfold mm_kind at hk; split at hk <;> first | (cases hk; done) | (rename_i h1; cases h1; done) | exact lv_astore_n hx hb hdg rfl hl hi (mm_set1_L A ls _ (.ref _)) (fun L' q => k1 L' q rfl) | exact lv_astore_nN hx hb hdg rfl hl hi (mm_set1_L A ls _ .null) (fun L' q => k1 L' q rfl)
  · cases h; unfold mm_kind at hk; split at hk <;> first | (cases hk; done) | (rename_i h1; cases h1; done) | exact lv_astore hx hb hdg hl hi (mm_set1_L A ls _ (.ref _)) (fun L' q => k1 L' q rfl) | exact lv_astoreN hx hb hdg hl hi (mm_set1_L A ls _ .null) (fun L' q => k1 L' q rfl)
  · cases h
end MmPure
end
section
/-! THE CELLS of the small machine: a list g of them; position p + 1 is g's p-th; position 0 is the script. -/
def mm_a (A : Nat → Nat) : vp_A → vp_A
  | (n, .inr (.inr (.inr (.inr f)))) => (n, .inr (.inr (.inr (.inr (fun i => (f i).map A)))))
  | a => a
def mm_e (A : Nat → Nat) (cT : Nat → Nat) : va_E → va_E
  | .inl (t, a) => .inl (cT t, mm_a A a)
  | .inr (ci, fs) => .inr (ci, fs.map (mm_v A))
def mm_W (A : Nat → Nat) (cT : Nat → Nat) : Nat → List va_E → va_W
  | _, [] => []
  | p, e :: r => (A (p + 1), mm_e A cT e) :: mm_W A cT (p + 1) r
theorem mm_W_get (A : Nat → Nat) (cT : Nat → Nat) : ∀ (g : List va_E) (p i : Nat), (mm_W A cT p g)[i]? = (g[i]?).map (fun e => (A (p + i + 1), mm_e A cT e))
  | [], p, i => by simp [mm_W]
  | e :: r, p, 0 => by simp [mm_W]
  | e :: r, p, i + 1 => by
    have := mm_W_get A cT r (p + 1) i
    simp only [mm_W, List.getElem?_cons_succ, this]
    rw [show p + 1 + i + 1 = p + (i + 1) + 1 by omega]
theorem mm_W_set (A : Nat → Nat) (cT : Nat → Nat) (e' : va_E) : ∀ (g : List va_E) (p i : Nat), (mm_W A cT p g).set i (A (p + i + 1), mm_e A cT e') = mm_W A cT p (g.set i e')
  | [], p, i => by simp [mm_W]
  | e :: r, p, 0 => by simp [mm_W]
  | e :: r, p, i + 1 => by
    have := mm_W_set A cT e' r (p + 1) i
    rw [show p + 1 + i + 1 = p + (i + 1) + 1 by omega] at this
    simp only [mm_W, List.set_cons_succ, this]
theorem mm_W_app (A : Nat → Nat) (cT : Nat → Nat) (e' : va_E) : ∀ (g : List va_E) (p : Nat), mm_W A cT p (g ++ [e']) = mm_W A cT p g ++ [(A (p + g.length + 1), mm_e A cT e')]
  | [], p => by simp [mm_W]
  | e :: r, p => by
    have := mm_W_app A cT e' r (p + 1)
    simp only [List.cons_append, mm_W, this, List.length_cons]
    rw [show p + 1 + r.length + 1 = p + (r.length + 1) + 1 by omega]
def mm_T (cT : Nat → Nat) : Nat → List FieldType → List (ClassId × FieldType)
  | _, [] => []
  | t, y :: r => (cT t, y) :: mm_T cT (t + 1) r
theorem mm_T_get (cT : Nat → Nat) : ∀ (l : List FieldType) (t i : Nat), (mm_T cT t l)[i]? = (l[i]?).map (fun y => (cT (t + i), y))
  | [], t, i => by simp [mm_T]
  | y :: r, t, 0 => by simp [mm_T]
  | y :: r, t, i + 1 => by
    have := mm_T_get cT r (t + 1) i
    simp only [mm_T, List.getElem?_cons_succ, this]
    rw [show t + 1 + i = t + (i + 1) by omega]
/-- what a heap is: the cells of g, the script, nothing else has changed since the method's start -/
def mm_R (D : va_G) (cl : List vw_C) (cT : Nat → Nat) (b z Ln : Nat) (xs : Nat → Int32) (s : State) (g : List va_E) (H : Heap) (locs : List Loc) : Prop :=
  H.size = z + g.length ∧ va_P D cl (mm_W (mm_A b z) cT 0 g) H ∧ va_S (fun q => z ≤ q) s.heap H locs ∧ va_X b Ln xs s s.heap ∧ b < z ∧ z ≤ s.heap.size
theorem mm_R.D {D : va_G} {cl : List vw_C} {cT : Nat → Nat} {b z Ln : Nat} {xs : Nat → Int32} {s : State} {g : List va_E} {H : Heap} {locs : List Loc} (_ : mm_R D cl cT b z Ln xs s g H locs) : va_D (fun q => z ≤ q) (mm_W (mm_A b z) cT 0 g) := by
  refine ⟨fun i j p q hi hj he => ?_, fun k q hk => ?_⟩
  · rw [mm_W_get] at hi hj
    obtain ⟨e1, h1, rfl⟩ := Option.map_eq_some_iff.mp hi
    obtain ⟨e2, h2, rfl⟩ := Option.map_eq_some_iff.mp hj
    simp only [mm_A] at he
    omega
  · rw [mm_W_get] at hk
    obtain ⟨e1, h1, rfl⟩ := Option.map_eq_some_iff.mp hk
    simp only [mm_A]
    omega
theorem mm_at {D : va_G} {cl : List vw_C} {cT : Nat → Nat} {b z Ln : Nat} {xs : Nat → Int32} {s : State} {g : List va_E} {H : Heap} {locs : List Loc} (_ : mm_R D cl cT b z Ln xs s g H locs) {q : Nat} {e : va_E} (h : g[q]? = some e) : (mm_W (mm_A b z) cT 0 g)[q]? = some (mm_A b z (q + 1), mm_e (mm_A b z) cT e) := by
  rw [mm_W_get, h]
  simp
theorem mm_R.set {D : va_G} {cl : List vw_C} {cT : Nat → Nat} {b z Ln : Nat} {xs : Nat → Int32} {s : State} {g : List va_E} {H H1 : Heap} {locs locs1 : List Loc} (r : mm_R D cl cT b z Ln xs s g H locs) {q : Nat} {e' : va_E}
    (hP : va_P D cl ((mm_W (mm_A b z) cT 0 g).set q (mm_A b z (q + 1), mm_e (mm_A b z) cT e')) H1) (hS : va_S (fun q => z ≤ q) s.heap H1 locs1) (hz : H1.size = H.size) : mm_R D cl cT b z Ln xs s (g.set q e') H1 locs1 := by
  obtain ⟨h1, -, -, h4, h5, h6⟩ := r
  have hW := mm_W_set (mm_A b z) cT e' g 0 q
  rw [Nat.zero_add] at hW
  rw [hW] at hP
  exact ⟨by rw [hz, h1, List.length_set], hP, hS, h4, h5, h6⟩
theorem mm_R.push {D : va_G} {cl : List vw_C} {cT : Nat → Nat} {b z Ln : Nat} {xs : Nat → Int32} {s : State} {g : List va_E} {H H1 : Heap} {locs : List Loc} (r : mm_R D cl cT b z Ln xs s g H locs) {e' : va_E}
    (hn : va_at D cl (H.size, mm_e (mm_A b z) cT e') H1) (hz : H1.size = H.size + 1) (ho : ∀ q, q < H.size → H1[q]? = H[q]?) : mm_R D cl cT b z Ln xs s (g ++ [e']) H1 locs := by
  obtain ⟨h1, h2, h3, h4, h5, h6⟩ := r
  have hA : mm_A b z (0 + g.length + 1) = H.size := by simp only [mm_A]; omega
  refine ⟨by rw [hz, h1, List.length_append]; rfl, ?_, ⟨by have := h3.1; omega, fun q hq hn => ?_, h3.2.2⟩, h4, h5, h6⟩
  · rw [mm_W_app, hA]
    refine (h2.kept fun k x hx => ho _ (h2 k x hx).lt).app (fun k x hx => ?_)
    have hk : k = 0 := by
      have := (List.getElem?_eq_some_iff.mp hx).1
      simp at this
      omega
    subst hk
    cases hx
    exact hn
  · rw [ho q (by have := h3.1; omega)]
    exact h3.2.1 q hq hn
theorem mm_R.X {D : va_G} {cl : List vw_C} {cT : Nat → Nat} {b z Ln : Nat} {xs : Nat → Int32} {s : State} {g : List va_E} {H : Heap} {locs : List Loc} (r : mm_R D cl cT b z Ln xs s g H locs) : va_X b Ln xs s H := by
  obtain ⟨h1, h2, h3, ⟨scr, q1, q2, q3, q4, q5⟩, h5, h6⟩ := r
  exact ⟨scr, by rw [h3.2.1 b (by omega) (by omega)]; exact q1, q2, q3, q4, q5⟩
end
section
/-! ONE STEP, the part that touches no cell. nx: what must hold of the next state. -/
/-- an instruction's length (a switch's is not told here) -/
def mm_ln (ins : Instr) : Nat := match ins with
  | .bipush _ | .iload _ | .lload _ | .aload _ | .istore _ | .lstore _ | .astore _ | .newarray _ | .ldc _ => 2
  | .sipush _ | .goto _ | .ifCond _ _ | .if_icmp _ _ | .if_acmp _ _ | .ifnull _ | .ifnonnull _ | .iinc _ _ | .getfield _ | .putfield _ | .getstatic _ | .new _ | .anewarray _
  | .invokevirtual _ | .invokespecial _ | .invokestatic _ | .ldc_w _ | .ldc2_w _ => 3
  | _ => 1
theorem mm_con_ln {ins : Instr} {v : Value} {n : Nat} (h : mm_con ins = some (v, n)) : mm_ln ins = n := by
  unfold mm_con at h
  split at h <;> cases h <;> rfl
theorem mm_ld_ln {ins : Instr} {i n kd : Nat} (h : mm_ld ins = some (i, n, kd)) : mm_ln ins = n := by
  unfold mm_ld at h
  split at h <;> cases h <;> rfl
theorem mm_sto_ln {ins : Instr} {i n kd : Nat} (h : mm_sto ins = some (i, n, kd)) : mm_ln ins = n := by
  unfold mm_sto at h
  split at h <;> cases h <;> rfl
theorem mm_bin_ln {ins : Instr} {f : Int32 → Int32 → Int32} (h : mm_bin ins = some f) : mm_ln ins = 1 := by
  unfold mm_bin at h
  split at h <;> cases h <;> rfl
theorem mm_binL_ln {ins : Instr} {f : Int64 → Int64 → Int64} (h : mm_binL ins = some f) : mm_ln ins = 1 := by
  unfold mm_binL at h
  split at h <;> cases h <;> rfl
theorem mm_div_ln {ins : Instr} {f : Int32 → Int32 → Int32} (h : mm_div ins = some f) : mm_ln ins = 1 := by
  unfold mm_div at h
  split at h <;> cases h <;> rfl
theorem mm_divL_ln {ins : Instr} {f : Int64 → Int64 → Int64} (h : mm_divL ins = some f) : mm_ln ins = 1 := by
  unfold mm_divL at h
  split at h <;> cases h <;> rfl
theorem mm_un_ln {ins : Instr} {v w : Value} (h : mm_un ins v = some w) : mm_ln ins = 1 := by
  unfold mm_un at h
  split at h <;> cases h <;> rfl
theorem mm_stk_ln {ins : Instr} {st st' : List Value} (h : mm_stk ins st = some st') : mm_ln ins = 1 := by
  unfold mm_stk at h
  split at h <;> first | (cases h; done) | rfl
theorem mm_br_ln {ins : Instr} {st st' : List Value} {P : Prop} {o : Int} (h : mm_br ins st = some (P, o, st')) : mm_ln ins = 3 := by
  unfold mm_br at h
  split at h <;> cases h <;> rfl
/-- where a branch goes -/
def mm_tgt (pc : Nat) (o : Int) : Option Nat := match (pc : Int) + o with
  | .ofNat t => some t
  | .negSucc _ => none
theorem mm_tgt_ok {pc t : Nat} {o : Int} (h : mm_tgt pc o = some t) : (pc : Int) + o = (t : Int) := by
  unfold mm_tgt at h
  split at h
  · rename_i t' he
    cases h
    exact he
  · cases h
def mm_s1 (nL : Nat) (nx : Nat → List (Nat × Value) → List Value → Prop) (ins : Instr) (pc : Nat) (ls : List (Nat × Value)) (st : List Value) : Option Prop :=
  match mm_con ins with
  | some (v, _) => some (nx (pc + mm_ln ins) ls (v :: st))
  | none =>
  match mm_ld ins with
  | some (i, _, kd) => match mm_get ls i with
    | some v => match mm_kind kd v with
      | true => some (nx (pc + mm_ln ins) ls (v :: st))
      | false => some False
    | none => some False
  | none =>
  match mm_sto ins with
  | some (i, _, kd) => match st with
    | v :: r => match mm_kind kd v with
      | true => match decide (i + v.category ≤ nL) with
        | true => some (nx (pc + mm_ln ins) (if v.category = 2 then mm_set2 ls i v else mm_set1 ls i v) r)
        | false => some False
      | false => some False
    | [] => some False
  | none =>
  match mm_bin ins with
  | some f => match st with
    | .int y :: .int x :: r => some (nx (pc + 1) ls (.int (f x y) :: r))
    | _ => some False
  | none =>
  match mm_br ins st with
  | some (c, o, r) => match mm_tgt pc o with
    | some t => some ((c → nx t ls r) ∧ (¬ c → nx (pc + 3) ls r))
    | none => some False
  | none =>
  match mm_stk ins st with
  | some r => some (nx (pc + 1) ls r)
  | none =>
  match mm_binL ins with
  | some f => match st with
    | .long y :: .long x :: r => some (nx (pc + 1) ls (.long (f x y) :: r))
    | _ => some False
  | none =>
  match mm_div ins with
  | some f => match st with
    | .int y :: .int x :: r => some (¬ y = 0 ∧ nx (pc + 1) ls (.int (f x y) :: r))
    | _ => some False
  | none =>
  match mm_divL ins with
  | some f => match st with
    | .long y :: .long x :: r => some (¬ y = 0 ∧ nx (pc + 1) ls (.long (f x y) :: r))
    | _ => some False
  | none =>
  match ins with
  | .goto o => match mm_tgt pc o with
    | some t => some (nx t ls st)
    | none => some False
  | .iinc i c => match mm_get ls i with
    | some (.int x) => match decide (i < nL) with
      | true => some (nx (pc + 3) (mm_set1 ls i (.int (x + Int32.ofInt c))) st)
      | false => some False
    | _ => some False
  | .ifnull o => match st with
    | .null :: r => match mm_tgt pc o with
      | some t => some (nx t ls r)
      | none => some False
    | .ref _ :: r => some (nx (pc + 3) ls r)
    | _ => some False
  | .ifnonnull o => match st with
    | .ref _ :: r => match mm_tgt pc o with
      | some t => some (nx t ls r)
      | none => some False
    | .null :: r => some (nx (pc + 3) ls r)
    | _ => some False
  | .lcmp => match st with
    | .long y :: .long x :: r => some (nx (pc + 1) ls (.int (lg_cmp x y) :: r))
    | _ => some False
  | _ => match st with
    | v :: r => match mm_un ins v with
      | some w => some (nx (pc + 1) ls (w :: r))
      | none => none
    | [] => none
section MmS1
variable {p : Program} {l : Launch} {e : Env} {R : Room} {s : State} {m : MethodId} {args : Array Value} {below : List Frame} {meth : Method} {c : Code} {H : Heap} {locs : List Loc} {cells slots : Nat} {Q : State → Prop} {cc : ByteArray} {pc : Nat} {ins : Instr} {L : Array Slot} {nL : Nat} {A : Nat → Nat} {ls : List (Nat × Value)} {st : List Value}
set_option maxHeartbeats 1000000 in
theorem mm_s1_ok (hx : p.tables.exec = Jvm.exec) (hb : c.code = cc) {nx : Nat → List (Nat × Value) → List Value → Prop} {X : Prop} (h : mm_s1 nL nx ins pc ls st = some X) (hX : X) (hdg : decode cc pc = .ok (ins, mm_ln ins)) (hl : lv_has L nL (mm_L A ls))
    (k : ∀ pc' ls' st' L', nx pc' ls' st' → lv_has L' nL (mm_L A ls') → W p l e R s m args below meth c H locs cells slots Q (F0 m pc' L' (mm_S A st'))) : W p l e R s m args below meth c H locs cells slots Q (F0 m pc L (mm_S A st)) := by
  unfold mm_s1 at h
  split at h
  · rename_i v n hc
    cases h
    have hn := mm_con_ln hc
    rw [hn] at hdg hX
    exact mm_con_ok (A := A) hx hb hc hdg (k _ _ _ L hX hl)
  split at h
  · rename_i i n kd hc
    have hn := mm_ld_ln hc
    rw [hn] at hdg h
    split at h
    · rename_i v hv
      split at h
      · rename_i hk
        cases h
        exact mm_ld_ok (A := A) hx hb hc (mm_get_has hl hv) hk hdg (k _ _ _ L hX hl)
      · cases h; exact hX.elim
    · cases h; exact hX.elim
  split at h
  · rename_i i n kd hc
    have hn := mm_sto_ln hc
    rw [hn] at hdg h
    split at h
    · rename_i v r
      split at h
      · rename_i hk
        split at h
        · rename_i hd
          cases h
          have hd := of_decide_eq_true hd
          refine mm_sto_ok (A := A) hx hb hc hk hl ?_ hdg (fun L' hl' => k _ _ _ L' hX hl')
          rcases lv_cat v with q | q
          · exact Or.inr ⟨by omega, q⟩
          · exact Or.inl (by omega)
        · cases h; exact hX.elim
      · cases h; exact hX.elim
    · cases h; exact hX.elim
  split at h
  · rename_i f hc
    rw [mm_bin_ln hc] at hdg
    split at h
    · cases h; exact mm_bin_ok hx hb hc hdg (k _ _ _ L hX hl)
    · cases h; exact hX.elim
  split at h
  · rename_i c' o r hc
    rw [mm_br_ln hc] at hdg
    split at h
    · rename_i t ht
      cases h
      exact mm_br_ok (A := A) hx hb hc hdg (mm_tgt_ok ht) (fun q => k _ _ _ L (hX.1 q) hl) (fun q => k _ _ _ L (hX.2 q) hl)
    · cases h; exact hX.elim
  split at h
  · rename_i r hc
    rw [mm_stk_ln hc] at hdg
    cases h; exact mm_stk_ok (A := A) hx hb hc hdg (k _ _ _ L hX hl)
  split at h
  · rename_i f hc
    rw [mm_binL_ln hc] at hdg
    split at h
    · cases h; exact mm_binL_ok hx hb hc hdg (k _ _ _ L hX hl)
    · cases h; exact hX.elim
  split at h
  · rename_i f hc
    rw [mm_div_ln hc] at hdg
    split at h
    · cases h; exact mm_div_ok hx hb hc hX.1 hdg (k _ _ _ L hX.2 hl)
    · cases h; exact hX.elim
  split at h
  · rename_i f hc
    rw [mm_divL_ln hc] at hdg
    split at h
    · cases h; exact mm_divL_ok hx hb hc hX.1 hdg (k _ _ _ L hX.2 hl)
    · cases h; exact hX.elim
  split at h
  · split at h
    · rename_i t ht
      cases h; exact lv_goto hx hb hdg (mm_tgt_ok ht) (k _ _ _ L hX hl)
    · cases h; exact hX.elim
  · split at h
    · rename_i x hv
      split at h
      · rename_i hd
        cases h
        have hm := mm_get_mem hv
        have hm2 : (_, Value.int x) ∈ mm_L A ls := List.mem_map.mpr ⟨_, hm, rfl⟩
        obtain ⟨j, hj⟩ := List.getElem?_of_mem hm2
        exact lv_iinc hx hb hdg hl (k := j) hj rfl (of_decide_eq_true hd) (mm_set1_L A ls _ (.int _)) (fun L' hl' => k _ _ _ L' hX hl')
      · cases h; exact hX.elim
    · cases h; exact hX.elim
  · split at h
    · split at h
      · rename_i t ht
        cases h; exact lv_ifnullN hx hb hdg (mm_tgt_ok ht) (k _ _ _ L hX hl)
      · cases h; exact hX.elim
    · cases h; exact lv_ifnull hx hb hdg (k _ _ _ L hX hl)
    · cases h; exact hX.elim
  · split at h
    · split at h
      · rename_i t ht
        cases h; exact lv_ifnonnull hx hb hdg (mm_tgt_ok ht) (k _ _ _ L hX hl)
      · cases h; exact hX.elim
    · cases h; exact lv_ifnonnullN hx hb hdg (k _ _ _ L hX hl)
    · cases h; exact hX.elim
  · split at h
    · cases h; exact W.lcmp hx hb hdg (k _ _ _ L hX hl)
    · cases h; exact hX.elim
  · split at h
    · split at h
      · rename_i w hc
        rw [mm_un_ln hc] at hdg
        cases h; exact mm_un_ok (A := A) hx hb hc hdg (k _ _ _ L hX hl)
      · cases h
    · cases h
end MmS1
end
section
/-! ONE STEP that touches cells. -/
theorem mm_R.put {D : va_G} {cl : List vw_C} {cT : Nat → Nat} {b z Ln : Nat} {xs : Nat → Int32} {s : State} {g : List va_E} {H H1 : Heap} {locs : List Loc} (r : mm_R D cl cT b z Ln xs s g H locs) {q : Nat} {e0 e' : va_E} (hq : g[q]? = some e0)
    (he : va_at D cl (mm_A b z (q + 1), mm_e (mm_A b z) cT e') H1) (hz : H1.size = H.size) (oq : ∀ x : Nat, x ≠ mm_A b z (q + 1) → H1[x]? = H[x]?) (i : Nat) : mm_R D cl cT b z Ln xs s (g.set q e') H1 (locs ++ [⟨mm_A b z (q + 1), i⟩]) :=
  r.set (r.2.1.set r.D (mm_at r hq) he oq) (r.2.2.1.put hz oq (by show z ≤ mm_A b z (q + 1); simp only [mm_A]; omega)) hz
theorem mm_cell_i (A : Nat → Nat) (cA : ClassId) (n : Nat) (f : Nat → Int32) : vp_cell cA (mm_a A (n, .inl f)) = arrV cA n (fun j => .int (f j)) := rfl
theorem mm_cell_l (A : Nat → Nat) (cA : ClassId) (n : Nat) (f : Nat → Int64) : vp_cell cA (mm_a A (n, .inr (.inl f))) = arrV cA n (fun j => .long (f j)) := rfl
theorem mm_cell_q (A : Nat → Nat) (cA : ClassId) (n : Nat) (f : Nat → Option Nat) : vp_cell cA (mm_a A (n, .inr (.inr (.inr (.inr f))))) = arrV cA n (fun j => va_rf ((f j).map A)) := rfl
section MmCell
variable {p : Program} {l : Launch} {e : Env} {R : Room} {s : State} {m : MethodId} {args : Array Value} {below : List Frame} {meth : Method} {c : Code} {H : Heap} {locs : List Loc} {cells slots : Nat} {Q : State → Prop} {cc : ByteArray} {pc : Nat} {L : Array Slot} {D : va_G} {cl : List vw_C} {cT : Nat → Nat} {b z Ln : Nat} {xs : Nat → Int32} {g : List va_E} {rest : List Value} {tyl : List FieldType} {TB : List Cond}
theorem mm_getf_ok (hx : p.tables.exec = Jvm.exec) (hb : c.code = cc) {own C : String} {T : u_T} {N ci index j q : Nat} {fs : List Value} {v : Value} (hts : ∀ w ∈ TB, w.before args s = true) (hin : ∀ w ∈ u_ws C T N, w ∈ TB) (hown : s.vm.findClass own = some m.cls) (hK : va_K D cl (mm_T cT 0 tyl) s) (hR : mm_R D cl cT b z Ln xs s g H locs)
    (hq : g[q]? = some (.inr (ci, fs))) (hc : cl[ci]? = some (C, T, N)) (hj : j < N) (hlink : Cond.fieldLink own index (T j).1 (T j).2.1 (T j).2.2.1 ∈ TB) (hv : fs[j]? = some v) (hdg : decode cc pc = .ok (.getfield index, 3))
    (k : W p l e R s m args below meth c H locs cells slots Q (F0 m (pc + 3) L (mm_v (mm_A b z) v :: rest))) : W p l e R s m args below meth c H locs cells slots Q (F0 m pc L (.ref (mm_A b z (q + 1)) :: rest)) :=
  va_get (fs := fs.map (mm_v (mm_A b z))) hx hb hts hin hown hK hR.2.1 q (mm_at hR hq) hc j hj (hts _ hlink) (fun _ h => h) (by rw [List.getElem?_map, hv]; rfl) hdg k
theorem mm_putf_ok (hx : p.tables.exec = Jvm.exec) (hb : c.code = cc) {own C : String} {T : u_T} {N ci index j q : Nat} {fs : List Value} {v : Value} {ft : Nat → FieldType} (hts : ∀ w ∈ TB, w.before args s = true) (hin : ∀ w ∈ u_ws C T N, w ∈ TB) (hown : s.vm.findClass own = some m.cls) (hK : va_K D cl (mm_T cT 0 tyl) s) (hR : mm_R D cl cT b z Ln xs s g H locs)
    (hq : g[q]? = some (.inr (ci, fs))) (hc : cl[ci]? = some (C, T, N)) (hj : j < N) (hlink : Cond.fieldLink own index (T j).1 (T j).2.1 (T j).2.2.1 ∈ TB) (hty : ∀ k, k < N → parseFieldDescriptor (T k).2.2.1 = some (ft k)) (hnm : ∀ a, a < N → ∀ b, b < N → a ≠ b → (T a).2.1 ≠ (T b).2.1)
    (hfin : (T j).2.2.2 = false ∨ ((T j).2.2.2 = true ∧ meth.name = "<init>" ∧ (T j).1 = own)) (hn : narrow (ft j) (mm_v (mm_A b z) v) = mm_v (mm_A b z) v) (hfit : fits (ft j) (mm_v (mm_A b z) v) = true) (hl : j < fs.length) (hdg : decode cc pc = .ok (.putfield index, 3))
    (k : ∀ H' i, mm_R D cl cT b z Ln xs s (g.set q (.inr (ci, fs.set j v))) H' (locs ++ [⟨mm_A b z (q + 1), i⟩]) → W p l e R s m args below meth c H' (locs ++ [⟨mm_A b z (q + 1), i⟩]) cells slots Q (F0 m (pc + 3) L rest)) : W p l e R s m args below meth c H locs cells slots Q (F0 m pc L (mm_v (mm_A b z) v :: .ref (mm_A b z (q + 1)) :: rest)) := by
  have hap := va_apart (own := own) hts hin ft hty hnm hK hc
  obtain ⟨r, h1, cell, q1, q2, q3, q4⟩ := hR.2.1 q _ (mm_at hR hq)
  have hr : r = (C, T, N) := Option.some.inj (h1.symm.trans hc)
  subst hr
  obtain ⟨hS, hfc, kC, hkC, hkind⟩ := hK.1 ci _ hc
  obtain ⟨cf, kf, fi, f, hi, hsl⟩ := hS j hj
  have hst := (u_facts hfc hkC (u_lays hts hin hj) hi).1
  have hlen : j < (fs.map (mm_v (mm_A b z))).length := by rw [List.length_map]; exact hl
  have fin : ∀ H' : Heap, H'[mm_A b z (q + 1)]? = some (cell.setSlot (D.2 ci j) (mm_v (mm_A b z) v)) → H'.size = H.size → (∀ x : Nat, x ≠ mm_A b z (q + 1) → H'[x]? = H[x]?) → W p l e R s m args below meth c H' (locs ++ [⟨mm_A b z (q + 1), D.2 ci j⟩]) cells slots Q (F0 m (pc + 3) L rest) := by
    intro H' e1 e2 e3
    refine k H' _ (hR.put hq ?_ e2 e3 _)
    refine ⟨_, hc, t_OB.to (V := updV (vp_V (fs.map (mm_v (mm_A b z)))) j (mm_v (mm_A b z) v)) ⟨_, e1, q2, q3, t_set q4 hap hj _⟩ (fun i _ => ?_)⟩
    rw [vp_updV_set hlen, ← List.map_set]
  have hlay := hts _ (hin _ (u_in_lay hj))
  unfold u_lay at hlay
  rcases hfin with hf | ⟨hf, hin2, hdecl⟩
  · rw [if_neg (by rw [hf]; decide)] at hlay
    have h6 := u_store hfc hkC hkind hlay hi (hty j hj) hn hfit
    refine W.putK hx hb (f := f) ⟨hown, hts _ hlink, ⟨_, _, _, hi⟩, hst⟩ (by rw [q2]; exact h6) q1 q3 (by rw [hsl]; exact k2_hasslot (q4 j hj)) rfl rfl hdg fun H' e1 e2 e3 => ?_
    rw [hsl] at e1 ⊢
    exact fin H' e1 e2 e3
  · rw [if_pos hf] at hlay
    have hcf : m.cls = cf := by
      obtain ⟨_, _, c', _, _, _, -, -, hf', -, -, -, hown2, -⟩ := Cond.laysFinal_spec hlay
      have e1 : c' = cf := by have := hi.symm.trans hf'; simp at this; exact this.1.symm
      rw [hdecl] at hown2
      rw [← e1]; exact Option.some.inj (hown.symm.trans hown2)
    have h6 := u_fits hfc hkC hkind (Or.inr hlay) hi (hty j hj) hn hfit
    refine W.putFinK hx hb hown (hts _ hlink) hi hst hcf hin2 (by rw [q2]; exact h6) q1 q3 (by rw [hsl]; exact k2_hasslot (q4 j hj)) rfl rfl hdg fun H' e1 e2 e3 => ?_
    rw [hsl] at e1 ⊢
    exact fin H' e1 e2 e3
theorem mm_ty (hK : va_K D cl (mm_T cT 0 tyl) s) {t : Nat} {ty : FieldType} (h : tyl[t]? = some ty) : (mm_T cT 0 tyl)[t]? = some (cT t, ty) := by
  rw [mm_T_get, h]
  simp
theorem mm_iast_ok (hx : p.tables.exec = Jvm.exec) (hb : c.code = cc) {q t n : Nat} {f : Nat → Int32} {i x : Int32} (hK : va_K D cl (mm_T cT 0 tyl) s) (hR : mm_R D cl cT b z Ln xs s g H locs) (hq : g[q]? = some (.inl (t, n, .inl f))) (ht : tyl[t]? = some .int) (hin : vp_in i n) (hdg : decode cc pc = .ok (.iastore, 1))
    (k : ∀ H' j, mm_R D cl cT b z Ln xs s (g.set q (.inl (t, n, .inl (upd f i.toNatClampNeg x)))) H' (locs ++ [⟨mm_A b z (q + 1), j⟩]) → W p l e R s m args below meth c H' (locs ++ [⟨mm_A b z (q + 1), j⟩]) cells slots Q (F0 m (pc + 1) L rest)) : W p l e R s m args below meth c H locs cells slots Q (F0 m pc L (.int x :: .int i :: .ref (mm_A b z (q + 1)) :: rest)) := by
  refine W.iast hx hb (hR.2.1 q _ (mm_at hR hq)) ((hK.2 t _ (mm_ty hK ht)).1 n (fun j => .int (f j))) (fun q => by cases q) (by show ¬ (i < 0 ∨ (arrV _ _ _).slots.size ≤ _); rw [arrV_size]; exact hin) rfl rfl hdg fun H1 e z oq => k H1 _ (hR.put hq ?_ z oq _)
  show H1[_]? = some (vp_cell _ _)
  rw [e]
  dsimp only
  rw [mm_cell_i, mm_cell_i, arrV_store]
  congr 2
  funext w
  by_cases hw : w = i.toNatClampNeg
  · subst hw; simp [updV, upd]
  · simp [updV, upd, hw]
theorem mm_zast_ok (hx : p.tables.exec = Jvm.exec) (hb : c.code = cc) {q t n : Nat} {f : Nat → Int32} {i x : Int32} (hK : va_K D cl (mm_T cT 0 tyl) s) (hR : mm_R D cl cT b z Ln xs s g H locs) (hq : g[q]? = some (.inl (t, n, .inl f))) (ht : tyl[t]? = some .boolean) (hin : vp_in i n) (hdg : decode cc pc = .ok (.bastore, 1))
    (k : ∀ H' j, mm_R D cl cT b z Ln xs s (g.set q (.inl (t, n, .inl (upd f i.toNatClampNeg (vp_nar .boolean x))))) H' (locs ++ [⟨mm_A b z (q + 1), j⟩]) → W p l e R s m args below meth c H' (locs ++ [⟨mm_A b z (q + 1), j⟩]) cells slots Q (F0 m (pc + 1) L rest)) : W p l e R s m args below meth c H locs cells slots Q (F0 m pc L (.int x :: .int i :: .ref (mm_A b z (q + 1)) :: rest)) := by
  refine W.zast hx hb (hR.2.1 q _ (mm_at hR hq)) ((hK.2 t _ (mm_ty hK ht)).1 n (fun j => .int (f j))) (fun q => by cases q) (by show ¬ (i < 0 ∨ (arrV _ _ _).slots.size ≤ _); rw [arrV_size]; exact hin) rfl rfl hdg fun H1 e z oq => k H1 _ (hR.put hq ?_ z oq _)
  show H1[_]? = some (vp_cell _ _)
  rw [e]
  dsimp only
  rw [mm_cell_i, mm_cell_i, arrV_store]
  congr 2
  funext w
  by_cases hw : w = i.toNatClampNeg
  · subst hw; simp [updV, upd, vp_nar]; try rfl
  · simp [updV, upd, hw]
theorem mm_cast_ok (hx : p.tables.exec = Jvm.exec) (hb : c.code = cc) {q t n : Nat} {f : Nat → Int32} {i x : Int32} (hK : va_K D cl (mm_T cT 0 tyl) s) (hR : mm_R D cl cT b z Ln xs s g H locs) (hq : g[q]? = some (.inl (t, n, .inl f))) (ht : tyl[t]? = some .char) (hin : vp_in i n) (hdg : decode cc pc = .ok (.castore, 1))
    (k : ∀ H' j, mm_R D cl cT b z Ln xs s (g.set q (.inl (t, n, .inl (upd f i.toNatClampNeg (vp_nar .char x))))) H' (locs ++ [⟨mm_A b z (q + 1), j⟩]) → W p l e R s m args below meth c H' (locs ++ [⟨mm_A b z (q + 1), j⟩]) cells slots Q (F0 m (pc + 1) L rest)) : W p l e R s m args below meth c H locs cells slots Q (F0 m pc L (.int x :: .int i :: .ref (mm_A b z (q + 1)) :: rest)) := by
  refine W.cast hx hb (hR.2.1 q _ (mm_at hR hq)) ((hK.2 t _ (mm_ty hK ht)).1 n (fun j => .int (f j))) (fun q => by cases q) (by show ¬ (i < 0 ∨ (arrV _ _ _).slots.size ≤ _); rw [arrV_size]; exact hin) rfl rfl hdg fun H1 e z oq => k H1 _ (hR.put hq ?_ z oq _)
  show H1[_]? = some (vp_cell _ _)
  rw [e]
  dsimp only
  rw [mm_cell_i, mm_cell_i, arrV_store]
  congr 2
  funext w
  by_cases hw : w = i.toNatClampNeg
  · subst hw; simp [updV, upd, vp_nar]; try rfl
  · simp [updV, upd, hw]
theorem mm_last_ok (hx : p.tables.exec = Jvm.exec) (hb : c.code = cc) {q t n : Nat} {f : Nat → Int64} {i : Int32} {x : Int64} (hK : va_K D cl (mm_T cT 0 tyl) s) (hR : mm_R D cl cT b z Ln xs s g H locs) (hq : g[q]? = some (.inl (t, n, .inr (.inl f)))) (ht : tyl[t]? = some .long) (hin : vp_in i n) (hdg : decode cc pc = .ok (.lastore, 1))
    (k : ∀ H' j, mm_R D cl cT b z Ln xs s (g.set q (.inl (t, n, .inr (.inl (vp_updL f i.toNatClampNeg x))))) H' (locs ++ [⟨mm_A b z (q + 1), j⟩]) → W p l e R s m args below meth c H' (locs ++ [⟨mm_A b z (q + 1), j⟩]) cells slots Q (F0 m (pc + 1) L rest)) : W p l e R s m args below meth c H locs cells slots Q (F0 m pc L (.long x :: .int i :: .ref (mm_A b z (q + 1)) :: rest)) := by
  refine W.last hx hb (hR.2.1 q _ (mm_at hR hq)) ((hK.2 t _ (mm_ty hK ht)).1 n (fun j => .long (f j))) (fun q => by cases q) (by show ¬ (i < 0 ∨ (arrV _ _ _).slots.size ≤ _); rw [arrV_size]; exact hin) rfl rfl hdg fun H1 e z oq => k H1 _ (hR.put hq ?_ z oq _)
  show H1[_]? = some (vp_cell _ _)
  rw [e]
  dsimp only
  rw [mm_cell_l, mm_cell_l, arrV_store]
  congr 2
  funext w
  by_cases hw : w = i.toNatClampNeg
  · subst hw; simp [updV, vp_updL]
  · simp [updV, vp_updL, hw]
theorem mm_aast_ok (hx : p.tables.exec = Jvm.exec) (hb : c.code = cc) {q q2 t n ci : Nat} {r : vw_C} {vs : List Value} {f : Nat → Option Nat} {i : Int32} (hK : va_K D cl (mm_T cT 0 tyl) s) (hR : mm_R D cl cT b z Ln xs s g H locs) (hq : g[q]? = some (.inl (t, n, .inr (.inr (.inr (.inr f)))))) (ht : tyl[t]? = some (.object r.1)) (hv : g[q2]? = some (.inr (ci, vs))) (hc : cl[ci]? = some r) (hin : vp_in i n) (hdg : decode cc pc = .ok (.aastore, 1))
    (k : ∀ H' j, mm_R D cl cT b z Ln xs s (g.set q (.inl (t, n, .inr (.inr (.inr (.inr (va_up f i.toNatClampNeg (some (q2 + 1))))))))) H' (locs ++ [⟨mm_A b z (q + 1), j⟩]) → W p l e R s m args below meth c H' (locs ++ [⟨mm_A b z (q + 1), j⟩]) cells slots Q (F0 m (pc + 1) L rest)) : W p l e R s m args below meth c H locs cells slots Q (F0 m pc L (.ref (mm_A b z (q2 + 1)) :: .int i :: .ref (mm_A b z (q + 1)) :: rest)) := by
  have hlt : i.toNatClampNeg < n := Nat.not_le.mp fun q => hin (Or.inr q)
  have h0 : ¬ i < 0 := fun q => hin (Or.inl q)
  obtain ⟨r', hr', cellV, g1, g2, g3, -⟩ := hR.2.1 q2 _ (mm_at hR hv)
  have hcls := (hK.1 ci r hc).2
  obtain ⟨kA, comp, k1, k2, k3, -⟩ := (hK.2 t _ (mm_ty hK ht)).2
  have hcomp : comp = D.1 ci := Option.some.inj (k3.symm.trans hcls.1)
  subst hcomp
  obtain ⟨kC, hkC, -⟩ := hcls.2
  refine W.aast hx hb (hR.2.1 q _ (mm_at hR hq)) (fun q h => by cases h) (fun h => by cases h) k1 k2 rfl hkC ⟨h0, by show _ < (arrV _ _ _).slots.size; rw [arrV_size]; exact hlt⟩ g1 (fun q h => by rw [g3] at h; cases h) (by rw [g2]; exact hkC) (by rw [g2]; exact va_assign hcls) rfl rfl hdg fun H1 e z oq => k H1 _ (hR.put hq ?_ z oq _)
  show H1[_]? = some (vp_cell _ _)
  rw [e]
  dsimp only
  rw [mm_cell_q, mm_cell_q, arrV_store]
  congr 2
  funext w
  by_cases hw : w = i.toNatClampNeg
  · subst hw; simp [updV, va_up, va_rf]
  · simp [updV, va_up, hw]
theorem mm_new_ok (hx : p.tables.exec = Jvm.exec) (hb : c.code = cc) {own C : String} {T : u_T} {N ci index : Nat} {dv : List Value} {ft : Nat → FieldType} (hts : ∀ w ∈ TB, w.before args s = true) (hin : ∀ w ∈ u_ws C T N, w ∈ TB) (hown : s.vm.findClass own = some m.cls) (hK : va_K D cl (mm_T cT 0 tyl) s) (hR : mm_R D cl cT b z Ln xs s g H locs)
    (hc : cl[ci]? = some (C, T, N)) (hty : ∀ k, k < N → parseFieldDescriptor (T k).2.2.1 = some (ft k)) (hcl : Cond.classLink own index C ∈ TB) (hinst : Cond.instantiable C N ∈ TB) (hini : Cond.initialized C ∈ TB) (hdv : ∀ j, j < N → defaultValue (ft j) = vp_V (dv.map (mm_v (mm_A b z))) j) (hcells : cells + 1 ≤ R.cells) (hslots : slots + N ≤ R.slots) (hdg : decode cc pc = .ok (.new index, 3))
    (k : ∀ H', mm_R D cl cT b z Ln xs s (g ++ [.inr (ci, dv)]) H' locs → W p l e R s m args below meth c H' locs (cells + 1) (slots + N) Q (F0 m (pc + 3) L (.ref (mm_A b z (g.length + 1)) :: rest))) : W p l e R s m args below meth c H locs cells slots Q (F0 m pc L rest) := by
  have hKn := hK.1 ci _ hc
  have hA : mm_A b z (g.length + 1) = H.size := by rw [hR.1]; rfl
  refine W.newcK hx hb hown (hts _ hcl) (hts _ hinst) (hts _ hini) rfl hdg hcells hslots hKn.2.1 rfl fun H1 kC hkC e1 z1 o1 => ?_
  rw [hA] at k
  exact k H1 (hR.push ⟨_, hc, (u_born ft hts hin hKn hkC e1 hty).to hdv⟩ z1 o1)
theorem mm_newa_ok (hx : p.tables.exec = Jvm.exec) (hb : c.code = cc) {at' : ArrayType} {t N : Nat} {a0 : vp_A} {n : Int32} (hts : ∀ w ∈ TB, w.before args s = true) (hK : va_K D cl (mm_T cT 0 tyl) s) (hR : mm_R D cl cT b z Ln xs s g H locs)
    (ht : tyl[t]? = some (newarray.typeOf at')) (harr : Cond.arrayClass (newarray.typeOf at') ∈ TB) (ha : ∀ cA : ClassId, vp_cell cA (mm_a (mm_A b z) a0) = arrV cA N (fun _ => defaultValue (newarray.typeOf at'))) (hn : ¬ n < 0) (hN : n.toNatClampNeg = N) (hbytes : N * componentBytes (newarray.typeOf at') ≤ 536870912) (hcells : cells + 1 ≤ R.cells) (hslots : slots + N ≤ R.slots) (hdg : decode cc pc = .ok (.newarray at', 2))
    (k : ∀ H', mm_R D cl cT b z Ln xs s (g ++ [.inl (t, a0)]) H' locs → W p l e R s m args below meth c H' locs (cells + 1) (slots + N) Q (F0 m (pc + 2) L (.ref (mm_A b z (g.length + 1)) :: rest))) : W p l e R s m args below meth c H locs cells slots Q (F0 m pc L (.int n :: rest)) := by
  have hA : mm_A b z (g.length + 1) = H.size := by rw [hR.1]; rfl
  refine va_newaK hx hb (hts _ harr) rfl hdg rfl hn hN hbytes hcells hslots rfl fun H1 cA e1 z1 o1 hAr hNm => ?_
  rw [hA] at k
  have hcA : cA = cT t := by
    have h := (hK.2 t _ (mm_ty hK ht)).2
    have h2 : s.vm.findClass ("[" ++ (newarray.typeOf at').toString) = some (cT t) := by cases at' <;> exact h
    exact Option.some.inj (hNm.symm.trans h2)
  subst hcA
  refine k H1 (hR.push ?_ z1 o1)
  show H1[H.size]? = some (vp_cell _ _)
  rw [ha]
  exact e1
theorem mm_newq_ok (hx : p.tables.exec = Jvm.exec) (hb : c.code = cc) {own C : String} {index t N : Nat} {n : Int32} (hts : ∀ w ∈ TB, w.before args s = true) (hown : s.vm.findClass own = some m.cls) (hK : va_K D cl (mm_T cT 0 tyl) s) (hR : mm_R D cl cT b z Ln xs s g H locs)
    (ht : tyl[t]? = some (.object C)) (hclink : Cond.classLink own index C ∈ TB) (hover : Cond.arrayOver (.object C) ∈ TB) (hn : ¬ n < 0) (hN : n.toNatClampNeg = N) (hbytes : N * 4 ≤ 536870912) (hcells : cells + 1 ≤ R.cells) (hslots : slots + N ≤ R.slots) (hdg : decode cc pc = .ok (.anewarray index, 3))
    (k : ∀ H', mm_R D cl cT b z Ln xs s (g ++ [.inl (t, N, .inr (.inr (.inr (.inr (fun _ => none)))))]) H' locs → W p l e R s m args below meth c H' locs (cells + 1) (slots + N) Q (F0 m (pc + 3) L (.ref (mm_A b z (g.length + 1)) :: rest))) : W p l e R s m args below meth c H locs cells slots Q (F0 m pc L (.int n :: rest)) := by
  have hA : mm_A b z (g.length + 1) = H.size := by rw [hR.1]; rfl
  subst hN
  refine W.anew hx hb hown (hts _ hclink) (hts _ hover) rfl hdg rfl hn hbytes hcells hslots fun cA kA comp f1 f2 f3 f4 => ?_
  rw [hA] at k
  have hcA : cA = cT t := by
    obtain ⟨kA', comp', -, -, -, h2⟩ := (hK.2 t _ (mm_ty hK ht)).2
    exact Option.some.inj (f1.symm.trans h2)
  subst hcA
  refine k _ (hR.push ?_ (by rw [Array.size_push]) (fun q hq => by rw [Array.getElem?_push, if_neg (Nat.ne_of_lt hq)]))
  show (H.push _)[H.size]? = some (vp_cell (cT t) (mm_a (mm_A b z) (_, .inr (.inr (.inr (.inr _))))))
  rw [Array.getElem?_push_size, mm_cell_q, arrV_new]
  rfl
theorem mm_newqa_ok (hx : p.tables.exec = Jvm.exec) (hb : c.code = cc) {own : String} {y : FieldType} {index t N : Nat} {n : Int32} (hts : ∀ w ∈ TB, w.before args s = true) (hown : s.vm.findClass own = some m.cls) (hK : va_K D cl (mm_T cT 0 tyl) s) (hR : mm_R D cl cT b z Ln xs s g H locs)
    (ht : tyl[t]? = some (.array y)) (hclink : Cond.classLink own index (FieldType.array y).toString ∈ TB) (hover : Cond.arrayOver (.array y) ∈ TB) (hn : ¬ n < 0) (hN : n.toNatClampNeg = N) (hbytes : N * 4 ≤ 536870912) (hcells : cells + 1 ≤ R.cells) (hslots : slots + N ≤ R.slots) (hdg : decode cc pc = .ok (.anewarray index, 3))
    (k : ∀ H', mm_R D cl cT b z Ln xs s (g ++ [.inl (t, N, .inr (.inr (.inr (.inr (fun _ => none)))))]) H' locs → W p l e R s m args below meth c H' locs (cells + 1) (slots + N) Q (F0 m (pc + 3) L (.ref (mm_A b z (g.length + 1)) :: rest))) : W p l e R s m args below meth c H locs cells slots Q (F0 m pc L (.int n :: rest)) := by
  have hA : mm_A b z (g.length + 1) = H.size := by rw [hR.1]; rfl
  subst hN
  refine W.anewA hx hb hown (hts _ hclink) (hts _ hover) rfl hdg rfl hn hbytes hcells hslots fun cA kA comp f1 f2 f3 f4 => ?_
  rw [hA] at k
  have hcA : cA = cT t := by
    have h2 := (hK.2 t _ (mm_ty hK ht)).2
    exact Option.some.inj (f1.symm.trans h2)
  subst hcA
  refine k _ (hR.push ?_ (by rw [Array.size_push]) (fun q hq => by rw [Array.getElem?_push, if_neg (Nat.ne_of_lt hq)]))
  show (H.push _)[H.size]? = some (vp_cell (cT t) (mm_a (mm_A b z) (_, .inr (.inr (.inr (.inr _))))))
  rw [Array.getElem?_push_size, mm_cell_q, arrV_new]
  rfl
end MmCell
end
section
/-! THE TABLES of the small machine, in one bundle; the steps that touch cells, as a function. -/
abbrev mm_P : Type := (Nat → Nat) × (Nat → List (Nat × Instr)) × (Nat → Nat) × (Nat → Option FieldType) × (Nat → Bool) × (Nat → Nat → Nat → Option Nat) × (Nat → Nat → Option Nat) × (Nat → Nat → Option (Nat × Nat)) × (Nat → Nat → FieldType × Bool) × (Nat → Nat → Option (Nat × List Value)) × (Nat → Nat → Option Nat) × (Nat → Nat → Option (Nat × Nat × Nat)) × (Nat → Nat → Option Int32) × (Nat → Nat → Option Int64) × (Nat → Nat → Option (Int × Nat × List Nat)) × (Nat → Option Nat) × Nat × Nat × Nat
/-- a method's class -/
abbrev mm_kc (P : mm_P) : Nat → Nat := P.1
/-- its code -/
abbrev mm_kd (P : mm_P) : Nat → List (Nat × Instr) := P.2.1
/-- its locals -/
abbrev mm_kl (P : mm_P) : Nat → Nat := P.2.2.1
/-- what it returns -/
abbrev mm_kr (P : mm_P) : Nat → Option FieldType := P.2.2.2.1
/-- is it a constructor -/
abbrev mm_ki (P : mm_P) : Nat → Bool := P.2.2.2.2.1
/-- where an exception of a class, thrown by the call at pc, is caught -/
abbrev mm_kh (P : mm_P) : Nat → Nat → Nat → Option Nat := P.2.2.2.2.2.1
/-- where a throw of a new exception begins: its class -/
abbrev mm_xt (P : mm_P) : Nat → Nat → Option Nat := P.2.2.2.2.2.2.1
/-- a field: its class, its place there -/
abbrev mm_fl (P : mm_P) : Nat → Nat → Option (Nat × Nat) := P.2.2.2.2.2.2.2.1
/-- a field's type, and whether it is final -/
abbrev mm_ft (P : mm_P) : Nat → Nat → FieldType × Bool := P.2.2.2.2.2.2.2.2.1
/-- what 'new' makes -/
abbrev mm_nl (P : mm_P) : Nat → Nat → Option (Nat × List Value) := P.2.2.2.2.2.2.2.2.2.1
/-- the type of what 'anewarray' makes -/
abbrev mm_al (P : mm_P) : Nat → Nat → Option Nat := P.2.2.2.2.2.2.2.2.2.2.1
/-- a call: the method, how many values it takes, its kind (0 static, 1 virtual, 2 a constructor, 3 Object's) -/
abbrev mm_ml (P : mm_P) : Nat → Nat → Option (Nat × Nat × Nat) := P.2.2.2.2.2.2.2.2.2.2.2.1
abbrev mm_cI (P : mm_P) : Nat → Nat → Option Int32 := P.2.2.2.2.2.2.2.2.2.2.2.2.1
abbrev mm_cL (P : mm_P) : Nat → Nat → Option Int64 := P.2.2.2.2.2.2.2.2.2.2.2.2.2.1
/-- a tableswitch: its least value, where it goes else, where it goes -/
abbrev mm_sw (P : mm_P) : Nat → Nat → Option (Int × Nat × List Nat) := P.2.2.2.2.2.2.2.2.2.2.2.2.2.2.1
/-- the class of what a row of references holds -/
abbrev mm_ec (P : mm_P) : Nat → Option Nat := P.2.2.2.2.2.2.2.2.2.2.2.2.2.2.2.1
abbrev mm_CM (P : mm_P) : Nat := P.2.2.2.2.2.2.2.2.2.2.2.2.2.2.2.2.1
abbrev mm_SM (P : mm_P) : Nat := P.2.2.2.2.2.2.2.2.2.2.2.2.2.2.2.2.2.1
abbrev mm_nT (P : mm_P) : Nat := P.2.2.2.2.2.2.2.2.2.2.2.2.2.2.2.2.2.2
/-- may a value go into a field of a type: 1 yes, 2 if it is narrow enough, 0 no -/
def mm_fit : FieldType → Value → Nat
  | .int, .int _ => 1
  | .long, .long _ => 1
  | .object _, .ref _ => 1
  | .object _, .null => 1
  | .array _, .ref _ => 1
  | .array _, .null => 1
  | .boolean, .int _ => 2
  | .char, .int _ => 2
  | _, _ => 0
theorem mm_fit_1 {A : Nat → Nat} {ty : FieldType} {v : Value} (h : mm_fit ty v = 1) : narrow ty (mm_v A v) = mm_v A v ∧ fits ty (mm_v A v) = true := by
  unfold mm_fit at h
  split at h <;> first | (cases h; done) | exact ⟨rfl, rfl⟩
theorem mm_fit_2 {A : Nat → Nat} {ty : FieldType} {v : Value} (h : mm_fit ty v = 2) : mm_v A v = v := by
  unfold mm_fit at h
  split at h <;> first | (cases h; done) | rfl
/-- the type's number and the zeros of a new row -/
def mm_nt : ArrayType → Option (Nat × (Nat → vp_A))
  | .int => some (0, fun n => (n, .inl (fun _ => 0)))
  | .long => some (1, fun n => (n, .inr (.inl (fun _ => 0))))
  | .char => some (2, fun n => (n, .inl (fun _ => 0)))
  | .boolean => some (3, fun n => (n, .inl (fun _ => 0)))
  | _ => none
def mm_s2 (P : mm_P) (k : Nat) (Ln : Nat) (xs : Nat → Int32) (nx : Nat → List Value → List va_E → Nat → Prop) (ins : Instr) (pc : Nat) (st : List Value) (g : List va_E) (sl : Nat) : Option Prop :=
  match ins with
  | .getfield i => match st with
    | .ref (q + 1) :: r => match g[q]? with
      | some (.inr (ci, fs)) => match mm_fl P (mm_kc P k) i with
        | some (cj, j) => match decide (ci = cj) with
          | true => match fs[j]? with
            | some v => some (nx (pc + 3) (v :: r) g sl)
            | none => some False
          | false => some False
        | none => some False
      | _ => some False
    | _ => some False
  | .putfield i => match st with
    | v :: .ref (q + 1) :: r => match g[q]? with
      | some (.inr (ci, fs)) => match mm_fl P (mm_kc P k) i with
        | some (cj, j) => match decide (ci = cj ∧ j < fs.length ∧ ((mm_ft P ci j).2 = false ∨ (mm_ki P k = true ∧ ci = mm_kc P k))) with
          | true => match mm_fit (mm_ft P ci j).1 v with
            | 1 => some (nx (pc + 3) r (g.set q (.inr (ci, fs.set j v))) sl)
            | 2 => some ((narrow (mm_ft P ci j).1 v = v ∧ fits (mm_ft P ci j).1 v = true) ∧ nx (pc + 3) r (g.set q (.inr (ci, fs.set j v))) sl)
            | _ => some False
          | false => some False
        | none => some False
      | _ => some False
    | _ => some False
  | .iaload => match st with
    | .int i :: .ref 0 :: r => some (vp_in i Ln ∧ nx (pc + 1) (.int (xs i.toNatClampNeg) :: r) g sl)
    | .int i :: .ref (q + 1) :: r => match g[q]? with
      | some (.inl (0, n, .inl f)) => some (vp_in i n ∧ nx (pc + 1) (.int (f i.toNatClampNeg) :: r) g sl)
      | _ => some False
    | _ => some False
  | .laload => match st with
    | .int i :: .ref (q + 1) :: r => match g[q]? with
      | some (.inl (1, n, .inr (.inl f))) => some (vp_in i n ∧ nx (pc + 1) (.long (f i.toNatClampNeg) :: r) g sl)
      | _ => some False
    | _ => some False
  | .caload => match st with
    | .int i :: .ref (q + 1) :: r => match g[q]? with
      | some (.inl (2, n, .inl f)) => some (vp_in i n ∧ nx (pc + 1) (.int (f i.toNatClampNeg) :: r) g sl)
      | _ => some False
    | _ => some False
  | .baload => match st with
    | .int i :: .ref (q + 1) :: r => match g[q]? with
      | some (.inl (3, n, .inl f)) => some (vp_in i n ∧ nx (pc + 1) (.int (f i.toNatClampNeg) :: r) g sl)
      | _ => some False
    | _ => some False
  | .aaload => match st with
    | .int i :: .ref (q + 1) :: r => match g[q]? with
      | some (.inl (t, n, .inr (.inr (.inr (.inr f))))) => match decide (4 ≤ t ∧ t < mm_nT P) with
        | true => some (vp_in i n ∧ nx (pc + 1) (va_rf (f i.toNatClampNeg) :: r) g sl)
        | false => some False
      | _ => some False
    | _ => some False
  | .iastore => match st with
    | .int x :: .int i :: .ref (q + 1) :: r => match g[q]? with
      | some (.inl (0, n, .inl f)) => some (vp_in i n ∧ nx (pc + 1) r (g.set q (.inl (0, n, .inl (upd f i.toNatClampNeg x)))) sl)
      | _ => some False
    | _ => some False
  | .lastore => match st with
    | .long x :: .int i :: .ref (q + 1) :: r => match g[q]? with
      | some (.inl (1, n, .inr (.inl f))) => some (vp_in i n ∧ nx (pc + 1) r (g.set q (.inl (1, n, .inr (.inl (vp_updL f i.toNatClampNeg x))))) sl)
      | _ => some False
    | _ => some False
  | .castore => match st with
    | .int x :: .int i :: .ref (q + 1) :: r => match g[q]? with
      | some (.inl (2, n, .inl f)) => some (vp_in i n ∧ nx (pc + 1) r (g.set q (.inl (2, n, .inl (upd f i.toNatClampNeg (vp_nar .char x))))) sl)
      | _ => some False
    | _ => some False
  | .bastore => match st with
    | .int x :: .int i :: .ref (q + 1) :: r => match g[q]? with
      | some (.inl (3, n, .inl f)) => some (vp_in i n ∧ nx (pc + 1) r (g.set q (.inl (3, n, .inl (upd f i.toNatClampNeg (vp_nar .boolean x))))) sl)
      | _ => some False
    | _ => some False
  | .aastore => match st with
    | .ref (q2 + 1) :: .int i :: .ref (q + 1) :: r => match g[q]? with
      | some (.inl (t, n, .inr (.inr (.inr (.inr f))))) => match g[q2]? with
        | some (.inr (ci, _)) => match mm_ec P t with
          | some cj => match decide (ci = cj) with
            | true => some (vp_in i n ∧ nx (pc + 1) r (g.set q (.inl (t, n, .inr (.inr (.inr (.inr (va_up f i.toNatClampNeg (some (q2 + 1))))))))) sl)
            | false => some False
          | none => some False
        | _ => some False
      | _ => some False
    | _ => some False
  | .arraylength => match st with
    | .ref 0 :: r => some (nx (pc + 1) (.int (Int32.ofNat Ln) :: r) g sl)
    | .ref (q + 1) :: r => match g[q]? with
      | some (.inl (t, a)) => match decide (t < mm_nT P) with
        | true => some (nx (pc + 1) (.int (Int32.ofNat a.1) :: r) g sl)
        | false => some False
      | _ => some False
    | _ => some False
  | .newarray y => match st with
    | .int x :: r => match mm_nt y with
      | some (t, a0) => some ((¬ x < 0 ∧ x.toNatClampNeg ≤ 1000000 ∧ g.length + 1 ≤ mm_CM P ∧ sl + x.toNatClampNeg ≤ mm_SM P) ∧ nx (pc + 2) (.ref (g.length + 1) :: r) (g ++ [.inl (t, a0 x.toNatClampNeg)]) (sl + x.toNatClampNeg))
      | none => some False
    | _ => some False
  | .anewarray i => match st with
    | .int x :: r => match mm_al P (mm_kc P k) i with
      | some t => some ((¬ x < 0 ∧ x.toNatClampNeg ≤ 1000000 ∧ g.length + 1 ≤ mm_CM P ∧ sl + x.toNatClampNeg ≤ mm_SM P) ∧ nx (pc + 3) (.ref (g.length + 1) :: r) (g ++ [.inl (t, x.toNatClampNeg, .inr (.inr (.inr (.inr (fun _ => none)))))]) (sl + x.toNatClampNeg))
      | none => some False
    | _ => some False
  | .new i => match mm_nl P (mm_kc P k) i with
    | some (ci, dv) => some ((g.length + 1 ≤ mm_CM P ∧ sl + dv.length ≤ mm_SM P) ∧ nx (pc + 3) (.ref (g.length + 1) :: st) (g ++ [.inr (ci, dv)]) (sl + dv.length))
    | none => some False
  | .ldc i => match mm_cI P (mm_kc P k) i with
    | some v => some (nx (pc + 2) (.int v :: st) g sl)
    | none => some False
  | .ldc2_w i => match mm_cL P (mm_kc P k) i with
    | some v => some (nx (pc + 3) (.long v :: st) g sl)
    | none => some False
  | _ => none
/-- the tables tell the truth, so far as cells go. cn: the classes' names -/
def mm_ok2 (P : mm_P) (TB : List Cond) (cl : List vw_C) (tyl : List FieldType) (cn : Nat → String) : Prop :=
  (∀ ci C T N, cl[ci]? = some (C, T, N) → (∀ w ∈ u_ws C T N, w ∈ TB) ∧ (∀ j, j < N → parseFieldDescriptor (T j).2.2.1 = some (mm_ft P ci j).1 ∧ (T j).2.2.2 = (mm_ft P ci j).2 ∧ (T j).1 = C) ∧ (∀ a, a < N → ∀ b, b < N → a ≠ b → (T a).2.1 ≠ (T b).2.1) ∧ (0 < N → cn ci = C))
  ∧ (∀ o i ci j, mm_fl P o i = some (ci, j) → ∃ C T N, cl[ci]? = some (C, T, N) ∧ j < N ∧ Cond.fieldLink (cn o) i (T j).1 (T j).2.1 (T j).2.2.1 ∈ TB)
  ∧ (∀ o i ci dv, mm_nl P o i = some (ci, dv) → ∃ C T N, cl[ci]? = some (C, T, N) ∧ Cond.classLink (cn o) i C ∈ TB ∧ Cond.instantiable C N ∈ TB ∧ Cond.initialized C ∈ TB ∧ dv.length = N ∧ (∀ v ∈ dv, ∀ q, v ≠ .ref q) ∧ ∀ j, j < N → defaultValue (mm_ft P ci j).1 = vp_V dv j)
  ∧ (∀ o i t, mm_al P o i = some t → (∃ C, tyl[t]? = some (.object C) ∧ Cond.classLink (cn o) i C ∈ TB ∧ Cond.arrayOver (.object C) ∈ TB) ∨ (∃ y, tyl[t]? = some (.array y) ∧ Cond.classLink (cn o) i (FieldType.array y).toString ∈ TB ∧ Cond.arrayOver (.array y) ∈ TB))
  ∧ (∀ y t a0, mm_nt y = some (t, a0) → tyl[t]? = some (newarray.typeOf y) ∧ Cond.arrayClass (newarray.typeOf y) ∈ TB)
  ∧ (∀ o i v, mm_cI P o i = some v → Cond.constant (cn o) i v ∈ TB)
  ∧ (∀ o i v, mm_cL P o i = some v → Cond.constantLong (cn o) i v ∈ TB)
  ∧ (tyl.length = mm_nT P ∧ (∀ t, 4 ≤ t → t < mm_nT P → ∃ y, tyl[t]? = some y ∧ y.isReference = true))
  ∧ (∀ t ci, mm_ec P t = some ci → ∃ r : vw_C, tyl[t]? = some (.object r.1) ∧ cl[ci]? = some r)
theorem mm_dv {A : Nat → Nat} {dv : List Value} (h : ∀ v ∈ dv, ∀ q, v ≠ .ref q) : dv.map (mm_v A) = dv := by
  have : ∀ v ∈ dv, mm_v A v = v := fun v hv => by
    cases v <;> first | rfl | exact absurd rfl (h _ hv _)
  exact (List.map_congr_left this).trans (List.map_id' dv)
/-- the counters: what the method has made so far, and that all of it fits -/
def mm_cnt (P : mm_P) (gl0 sl0 cells slots : Nat) (g : List va_E) (sl : Nat) : Prop := cells + gl0 = g.length ∧ slots + sl0 = sl ∧ g.length ≤ mm_CM P ∧ sl ≤ mm_SM P
section MmS2
variable {p : Program} {l : Launch} {e : Env} {R : Room} {s : State} {m : MethodId} {args : Array Value} {below : List Frame} {meth : Method} {c : Code} {H : Heap} {locs : List Loc} {cells slots : Nat} {Q : State → Prop} {cc : ByteArray} {pc : Nat} {ins : Instr} {L : Array Slot} {D : va_G} {cl : List vw_C} {cT : Nat → Nat} {b z Ln : Nat} {xs : Nat → Int32} {g : List va_E} {st : List Value} {tyl : List FieldType} {TB : List Cond} {P : mm_P} {cn : Nat → String} {k sl gl0 sl0 : Nat}
theorem mm_fin {ci j kc : Nat} {ki : Bool} {C own : String} {T : u_T} {fin : Bool} {name : String} (h1 : (T j).2.2.2 = fin) (h2 : (T j).1 = C) (hi : ki = true → name = "<init>") (hc : ci = kc → C = own) (h : fin = false ∨ (ki = true ∧ ci = kc)) : (T j).2.2.2 = false ∨ ((T j).2.2.2 = true ∧ name = "<init>" ∧ (T j).1 = own) := by
  subst h1
  rcases h with h | ⟨h3, h4⟩
  · exact Or.inl h
  · cases hf : (T j).2.2.2 with
    | false => exact Or.inl rfl
    | true => exact Or.inr ⟨rfl, hi h3, h2.trans (hc h4)⟩
set_option maxHeartbeats 2000000 in
theorem mm_s2_ok (ok : mm_ok2 P TB cl tyl cn) (hx : p.tables.exec = Jvm.exec) (hb : c.code = cc) (hts : ∀ w ∈ TB, w.before args s = true) (hown : s.vm.findClass (cn (mm_kc P k)) = some m.cls) (hname : mm_ki P k = true → meth.name = "<init>") (hK : va_K D cl (mm_T cT 0 tyl) s)
    {nx : Nat → List Value → List va_E → Nat → Prop} {X : Prop} (h : mm_s2 P k Ln xs nx ins pc st g sl = some X) (hX : X) (hdg : decode cc pc = .ok (ins, mm_ln ins)) (hR : mm_R D cl cT b z Ln xs s g H locs) (hcnt : mm_cnt P gl0 sl0 cells slots g sl) (hCM : mm_CM P ≤ R.cells + gl0) (hSM : mm_SM P ≤ R.slots + sl0)
    (kk : ∀ pc' st' g' sl' H' locs' cells' slots', nx pc' st' g' sl' → mm_R D cl cT b z Ln xs s g' H' locs' → mm_cnt P gl0 sl0 cells' slots' g' sl' → W p l e R s m args below meth c H' locs' cells' slots' Q (F0 m pc' L (mm_S (mm_A b z) st'))) : W p l e R s m args below meth c H locs cells slots Q (F0 m pc L (mm_S (mm_A b z) st)) := by
  obtain ⟨okC, okF, okN, okA, okT, okI, okL, ⟨okn, okR⟩, okE⟩ := ok
  obtain ⟨hcells, hslots, hcap1, hcap2⟩ := id hcnt
  have hset : ∀ (q : Nat) (e' : va_E), mm_cnt P gl0 sl0 cells slots (g.set q e') sl := fun q e' => ⟨by rw [List.length_set]; exact hcells, hslots, by rw [List.length_set]; exact hcap1, hcap2⟩
  unfold mm_s2 at h
  split at h
  · split at h
    · split at h
      · rename_i ci fs hq
        split at h
        · rename_i cj j hf
          split at h
          · rename_i hd
            have hd := of_decide_eq_true hd
            subst hd
            split at h
            · rename_i v hv
              cases h
              obtain ⟨C, T, N, hc, hj, hl⟩ := okF _ _ _ _ hf
              exact mm_getf_ok hx hb hts (okC _ _ _ _ hc).1 hown hK hR hq hc hj hl hv hdg (kk _ _ _ _ _ _ _ _ hX hR hcnt)
            · cases h; exact hX.elim
          · cases h; exact hX.elim
        · cases h; exact hX.elim
      · cases h; exact hX.elim
    · cases h; exact hX.elim
  · split at h
    · split at h
      · rename_i ci fs hq
        split at h
        · rename_i cj j hf
          split at h
          · rename_i hd
            obtain ⟨hd1, hd2, hd3⟩ := of_decide_eq_true hd
            subst hd1
            obtain ⟨C, T, N, hc, hj, hl⟩ := okF _ _ _ _ hf
            obtain ⟨o1, o2, o3, o4⟩ := okC _ _ _ _ hc
            have hfin := mm_fin (own := cn (mm_kc P k)) (o2 _ hj).2.1 (o2 _ hj).2.2 hname (fun q => by rw [← q]; exact (o4 (by omega)).symm) hd3
            split at h
            · rename_i hft
              cases h
              have hft := mm_fit_1 (A := mm_A b z) hft
              exact mm_putf_ok (ft := fun i => (mm_ft P ci i).1) hx hb hts o1 hown hK hR hq hc hj hl (fun i hi => (o2 i hi).1) o3 hfin hft.1 hft.2 hd2 hdg (fun H' i r => kk _ _ _ _ _ _ _ _ hX r (hset _ _))
            · rename_i hft
              cases h
              have hft := mm_fit_2 (A := mm_A b z) hft
              exact mm_putf_ok (ft := fun i => (mm_ft P ci i).1) hx hb hts o1 hown hK hR hq hc hj hl (fun i hi => (o2 i hi).1) o3 hfin (by rw [hft]; exact hX.1.1) (by rw [hft]; exact hX.1.2) hd2 hdg (fun H' i r => kk _ _ _ _ _ _ _ _ hX.2 r (hset _ _))
            · cases h; exact hX.elim
          · cases h; exact hX.elim
        · cases h; exact hX.elim
      · cases h; exact hX.elim
    · cases h; exact hX.elim
  · split at h
    · cases h
      exact va_sld (A := fun q => z ≤ q) hx hb hR.2.2.2.1 (by have := hR.2.2.2.2.1; have := hR.2.2.2.2.2; omega) (by have := hR.2.2.2.2.1; show ¬ z ≤ b; omega) hR.2.2.1 hX.1 hdg (kk _ _ _ _ _ _ _ _ hX.2 hR hcnt)
    · split at h
      · rename_i hq
        cases h
        exact va_iald hx hb hK hR.2.1 _ 0 (mm_at hR hq) (mm_ty hK (okT .int _ _ rfl).1) hX.1 hdg (kk _ _ _ _ _ _ _ _ hX.2 hR hcnt)
      · cases h; exact hX.elim
    · cases h; exact hX.elim
  · split at h
    · split at h
      · rename_i hq
        cases h
        exact va_lald hx hb hK hR.2.1 _ 1 (mm_at hR hq) (mm_ty hK (okT .long _ _ rfl).1) hX.1 hdg (kk _ _ _ _ _ _ _ _ hX.2 hR hcnt)
      · cases h; exact hX.elim
    · cases h; exact hX.elim
  · split at h
    · split at h
      · rename_i hq
        cases h
        exact va_cald hx hb hK hR.2.1 _ 2 (mm_at hR hq) (mm_ty hK (okT .char _ _ rfl).1) hX.1 hdg (kk _ _ _ _ _ _ _ _ hX.2 hR hcnt)
      · cases h; exact hX.elim
    · cases h; exact hX.elim
  · split at h
    · split at h
      · rename_i hq
        cases h
        exact va_zald hx hb hK hR.2.1 _ 3 (mm_at hR hq) (mm_ty hK (okT .boolean _ _ rfl).1) hX.1 hdg (kk _ _ _ _ _ _ _ _ hX.2 hR hcnt)
      · cases h; exact hX.elim
    · cases h; exact hX.elim
  · split at h
    · split at h
      · rename_i t n f hq
        split at h
        · rename_i hd
          obtain ⟨hd1, hd2⟩ := of_decide_eq_true hd
          cases h
          obtain ⟨y, hy, hr⟩ := okR _ hd1 hd2
          have hlt : _ < n := Nat.not_le.mp fun q => hX.1 (Or.inr q)
          refine W.aald (v := mm_v (mm_A b z) (va_rf (f _))) (ty := y) hx hb (hR.2.1 _ _ (mm_at hR hq)) ((hK.2 t _ (mm_ty hK hy)).1 n (fun j => va_rf ((f j).map (mm_A b z)))) hr (fun q => by cases q) (by show ¬ (_ < 0 ∨ (arrV _ _ _).slots.size ≤ _); rw [arrV_size]; exact hX.1) ?_ rfl rfl hdg (kk _ _ _ _ _ _ _ _ hX.2 hR hcnt)
          show (arrV (cT t) n (fun j => va_rf ((f j).map (mm_A b z)))).slots[_]? = _
          rw [arrV_read _ _ hlt]
          cases f _ <;> rfl
        · cases h; exact hX.elim
      · cases h; exact hX.elim
    · cases h; exact hX.elim
  · split at h
    · split at h
      · rename_i hq
        cases h
        exact mm_iast_ok hx hb hK hR hq (okT .int _ _ rfl).1 hX.1 hdg (fun H' i r => kk _ _ _ _ _ _ _ _ hX.2 r (hset _ _))
      · cases h; exact hX.elim
    · cases h; exact hX.elim
  · split at h
    · split at h
      · rename_i hq
        cases h
        exact mm_last_ok hx hb hK hR hq (okT .long _ _ rfl).1 hX.1 hdg (fun H' i r => kk _ _ _ _ _ _ _ _ hX.2 r (hset _ _))
      · cases h; exact hX.elim
    · cases h; exact hX.elim
  · split at h
    · split at h
      · rename_i hq
        cases h
        exact mm_cast_ok hx hb hK hR hq (okT .char _ _ rfl).1 hX.1 hdg (fun H' i r => kk _ _ _ _ _ _ _ _ hX.2 r (hset _ _))
      · cases h; exact hX.elim
    · cases h; exact hX.elim
  · split at h
    · split at h
      · rename_i hq
        cases h
        exact mm_zast_ok hx hb hK hR hq (okT .boolean _ _ rfl).1 hX.1 hdg (fun H' i r => kk _ _ _ _ _ _ _ _ hX.2 r (hset _ _))
      · cases h; exact hX.elim
    · cases h; exact hX.elim
  · split at h
    · split at h
      · rename_i t n f hq
        split at h
        · rename_i ci fs hq2
          split at h
          · rename_i cj he
            split at h
            · rename_i hd
              have hd := of_decide_eq_true hd
              subst hd
              cases h
              obtain ⟨r, hr1, hr2⟩ := okE _ _ he
              exact mm_aast_ok hx hb hK hR hq hr1 hq2 hr2 hX.1 hdg (fun H' i r => kk _ _ _ _ _ _ _ _ hX.2 r (hset _ _))
            · cases h; exact hX.elim
          · cases h; exact hX.elim
        · cases h; exact hX.elim
      · cases h; exact hX.elim
    · cases h; exact hX.elim
  · split at h
    · cases h
      exact va_slen (A := fun q => z ≤ q) (b := b) hx hb hR.2.2.2.1 (by have := hR.2.2.2.2.1; have := hR.2.2.2.2.2; omega) (by have := hR.2.2.2.2.1; show ¬ z ≤ b; omega) hR.2.2.1 hdg (kk _ _ _ _ _ _ _ _ hX hR hcnt)
    · split at h
      · rename_i t a hq
        split at h
        · rename_i hd
          have hd := of_decide_eq_true hd
          cases h
          obtain ⟨y, hy⟩ : ∃ y, tyl[t]? = some y := ⟨tyl[t]'(by rw [okn]; exact hd), List.getElem?_eq_getElem (by rw [okn]; exact hd)⟩
          refine va_alen hx hb hK hR.2.1 _ t (mm_at hR hq) (mm_ty hK hy) ?_ hdg (kk _ _ _ _ _ _ _ _ hX hR hcnt)
          obtain ⟨n, f | f | f | f | f⟩ := a <;> rfl
        · cases h; exact hX.elim
      · cases h; exact hX.elim
    · cases h; exact hX.elim
  · rename_i y
    split at h
    · rename_i x r
      split at h
      · rename_i t a0 hn
        cases h
        obtain ⟨⟨x1, x2, x3, x4⟩, x5⟩ := hX
        obtain ⟨t1, t2⟩ := okT _ _ _ hn
        refine mm_newa_ok hx hb hts hK hR t1 t2 (a0 := a0 x.toNatClampNeg) ?_ x1 rfl ?_ (by omega) (by omega) hdg (fun H' r => kk _ _ _ _ _ _ _ _ x5 r ⟨by rw [List.length_append]; show cells + 1 + gl0 = g.length + 1; omega, by omega, by rw [List.length_append]; show g.length + 1 ≤ mm_CM P; omega, by omega⟩)
        · intro cA
          unfold mm_nt at hn
          split at hn <;> first | (cases hn; done) | (cases hn; rfl)
        · have : componentBytes (newarray.typeOf y) ≤ 8 := by cases y <;> decide
          calc x.toNatClampNeg * componentBytes (newarray.typeOf y) ≤ 1000000 * 8 := Nat.mul_le_mul x2 this
            _ ≤ 536870912 := by decide
      · cases h; exact hX.elim
    · cases h; exact hX.elim
  · split at h
    · split at h
      · rename_i t hn
        cases h
        obtain ⟨⟨x1, x2, x3, x4⟩, x5⟩ := hX
        rcases okA _ _ _ hn with ⟨C, t1, t2, t3⟩ | ⟨y, t1, t2, t3⟩
        · exact mm_newq_ok hx hb hts hown hK hR t1 t2 t3 x1 rfl (by omega) (by omega) (by omega) hdg (fun H' r => kk _ _ _ _ _ _ _ _ x5 r ⟨by rw [List.length_append]; show cells + 1 + gl0 = g.length + 1; omega, by omega, by rw [List.length_append]; show g.length + 1 ≤ mm_CM P; omega, by omega⟩)
        · exact mm_newqa_ok hx hb hts hown hK hR t1 t2 t3 x1 rfl (by omega) (by omega) (by omega) hdg (fun H' r => kk _ _ _ _ _ _ _ _ x5 r ⟨by rw [List.length_append]; show cells + 1 + gl0 = g.length + 1; omega, by omega, by rw [List.length_append]; show g.length + 1 ≤ mm_CM P; omega, by omega⟩)
      · cases h; exact hX.elim
    · cases h; exact hX.elim
  · split at h
    · rename_i ci dv hn
      cases h
      obtain ⟨⟨x1, x2⟩, x3⟩ := hX
      obtain ⟨C, T, N, n1, n2, n3, n4, n5, n6, n7⟩ := okN _ _ _ _ hn
      obtain ⟨o1, o2, o3, o4⟩ := okC _ _ _ _ n1
      subst n5
      exact mm_new_ok (ft := fun j => (mm_ft P ci j).1) hx hb hts o1 hown hK hR n1 (fun j hj => (o2 j hj).1) n2 n3 n4 (by rw [mm_dv n6]; exact n7) (by omega) (by omega) hdg (fun H' r => kk _ _ _ _ _ _ _ _ x3 r ⟨by rw [List.length_append]; show cells + 1 + gl0 = g.length + 1; omega, by omega, by rw [List.length_append]; show g.length + 1 ≤ mm_CM P; omega, by omega⟩)
    · cases h; exact hX.elim
  · split at h
    · rename_i v hn
      cases h
      exact lv_ldc hx hb hown (hts _ (okI _ _ _ hn)) hdg (kk _ _ _ _ _ _ _ _ hX hR hcnt)
    · cases h; exact hX.elim
  · split at h
    · rename_i v hn
      cases h
      exact lv_ldc2 hx hb hown (hts _ (okL _ _ _ hn)) hdg (kk _ _ _ _ _ _ _ _ hX hR hcnt)
    · cases h; exact hX.elim
  · cases h
end MmS2
end
section
/-! AN EXCEPTION IS CAUGHT, its class's entry resolved before or not. -/
section MmCatch
variable {e : Env} {f : JFrame} {a : Addr}
theorem mm_go_class {E : CtlPost} {d : Bool} {acts : List Action} {s : State} {Q : Handler → Pre} {x : ExceptionTableEntry} {t : List ExceptionTableEntry} {c : ClassId} {vm' : Vm} {cell : Cell} (hx : covers x f.pc = true) (h0 : x.catchType ≠ 0)
    (hg : (Jvm.resolveClass f.method.cls x.catchType).Gives e.toSetting s.vm (.ok c) vm') (hsz : vm'.classes.size ≤ s.vm.classes.size) (hcell : s.heap[a]? = some cell) (hobj : ∀ k, cell.vm ≠ .statics k) (hk : ∃ k, vm'.classes[cell.cls]? = some k) (hc : ∃ k, vm'.classes[c]? = some k) :
    wp (findHandler.go f a (x :: t)) Q E e d acts s ↔ if vm'.assignable cell.cls c = true then Q (.found x.handlerPc) d acts (s.setVm vm') else wp (findHandler.go f a t) Q E e d acts (s.setVm vm') := by
  simp only [covers] at hx
  obtain ⟨ha, ht⟩ := hg.op (op := VmOp.resolveClass f.method.cls x.catchType) rfl
  cases hfit : vm'.assignable cell.cls c <;> simp [findHandler.go, hx, h0, ha, ht, hsz, hcell, hobj, hk, hc, hfit, VmOp.dirties, VmOp.acts]
theorem mm_step_catch {s : State} {r : List Frame} {pc : Nat} {vm' : Vm} (hfind : ∀ (Q : Handler → Pre) (E : CtlPost) (d : Bool) (acts : List Action), wp (findHandler f a) Q E e d acts s ↔ Q (.found pc) d acts (s.setVm vm')) :
    (stepThrowing e s a (.java f :: r)).Is ((s.setVm vm').setFrames (.java { f with pc := pc, stack := [.ref a] } :: r)) [] := by
  simp only [stepThrowing, searchFrame, vmDo]
  generalize hr : Sem.go _ e false [] s = res
  obtain ⟨as, rfl, ha⟩ := Sem.eq_ok_of hr (a := Handler.found pc) (s' := s.setVm vm') (acts' := []) (by simp [hfind _ _ _ _])
  exact ⟨rfl, ha⟩
/-- the first row of a table that covers pc and whose class is ci's; rows of other classes are passed by -/
def mm_hit (cc : Nat → Option Nat) (pc ci : Nat) : List (Nat × Nat × Nat × Nat) → Option Nat
  | [] => none
  | x :: r => if x.1 ≤ pc ∧ pc < x.2.1 then (match cc x.2.2.2 with
    | some cj => if cj = ci then some x.2.2.1 else mm_hit cc pc ci r
    | none => none) else mm_hit cc pc ci r
theorem mm_finds {s0 : State} {cc : Nat → Option Nat} {dC : Nat → ClassId} {ci : Nat} {pcH : Nat} {cell : Cell} (hpl : e.platform.magicAccessors = ({} : Platform).magicAccessors)
    (hcc : ∀ ct cj, cc ct = some cj → ct ≠ 0 ∧ s0.vm.ClassLinks e.platform f.method.cls ct (dC cj) ∧ (∃ k, s0.vm.classes[dC cj]? = some k) ∧ (s0.vm.assignable (dC ci) (dC cj) = true ↔ cj = ci)) (hcls : cell.cls = dC ci) (hci : ∃ k, s0.vm.classes[dC ci]? = some k) (hobj : ∀ k, cell.vm ≠ .statics k) :
    ∀ (hs : List ExceptionTableEntry) (s : State), s0.WarmedH s.vm → s.heap[a]? = some cell → mm_hit cc f.pc ci (hs.map (fun h => (h.startPc, h.endPc, h.handlerPc, h.catchType))) = some pcH →
      ∃ vm', s0.WarmedH vm' ∧ ∀ (Q : Handler → Pre) (E : CtlPost) (d : Bool) (acts : List Action), wp (findHandler.go f a hs) Q E e d acts s ↔ Q (.found pcH) d acts (s.setVm vm')
  | [], s, _, _, h => by simp [mm_hit] at h
  | x :: t, s, hW, hcell, h => by
    simp only [List.map_cons, mm_hit] at h
    by_cases hx : x.startPc ≤ f.pc ∧ f.pc < x.endPc
    · rw [if_pos hx] at h
      have hcov : covers x f.pc = true := by simp [covers, hx.1, hx.2]
      cases hcj : cc x.catchType with
      | none => rw [hcj] at h; cases h
      | some cj =>
        rw [hcj] at h
        dsimp only at h
        obtain ⟨h0, hl, hkj, has⟩ := hcc _ _ hcj
        obtain ⟨hg, hW1, hr1⟩ := State.classEntry (e := e) hW hl
        have hsz : (s.vm.noted f.method.cls x.catchType (.cls (dC cj))).classes.size ≤ s.vm.classes.size := by no_record
        generalize s.vm.noted f.method.cls x.catchType (.cls (dC cj)) = vm1 at hg hW1 hr1 hsz
        obtain ⟨k1, hk1⟩ := hci
        obtain ⟨k2, hk2⟩ := hkj
        obtain ⟨k1', hk1', -⟩ := hW1.alike.2.2 _ _ hk1
        obtain ⟨k2', hk2', -⟩ := hW1.alike.2.2 _ _ hk2
        have hgo := fun (Q : Handler → Pre) (E : CtlPost) (d : Bool) (acts : List Action) => mm_go_class (Q := Q) (E := E) (d := d) (acts := acts) (t := t) hcov h0 hg hsz hcell hobj ⟨k1', by rw [hcls]; exact hk1'⟩ ⟨k2', hk2'⟩
        have hasg : vm1.assignable cell.cls (dC cj) = s0.vm.assignable (dC ci) (dC cj) := by rw [hcls]; exact hW1.alike.assignable _ _
        by_cases hj : cj = ci
        · rw [if_pos hj] at h
          cases h
          refine ⟨vm1, hW1, fun Q E d acts => (hgo Q E d acts).trans ?_⟩
          rw [if_pos (by rw [hasg]; exact has.mpr hj)]
        · simp only [if_neg hj] at h
          obtain ⟨vm2, hW2, hq⟩ := mm_finds hpl hcc hcls ⟨k1, hk1⟩ hobj t (s.setVm vm1) hW1 hcell h
          refine ⟨vm2, hW2, fun Q E d acts => (hgo Q E d acts).trans ?_⟩
          rw [if_neg (by rw [hasg]; exact fun q => hj (has.mp q))]
          exact hq Q E d acts
    · rw [if_neg hx] at h
      obtain ⟨vm2, hW2, hq⟩ := mm_finds hpl hcc hcls hci hobj t s hW hcell h
      refine ⟨vm2, hW2, fun Q E d acts => ?_⟩
      rw [W.findHandler_go_skip (by simp only [covers]; by_cases q1 : x.startPc ≤ f.pc <;> by_cases q2 : f.pc < x.endPc <;> simp [q1, q2]; exact hx ⟨q1, q2⟩)]
      exact hq Q E d acts
end MmCatch
section MmCatchAt
variable {p : Program} {l : Launch} {e : Env} {R : Room} {s : State} {m : MethodId} {args : Array Value} {below : List Frame} {meth : Method} {c : Code} {T : State} {locs : List Loc} {cells slots : Nat}
theorem mm_caught (X : Stand p l e R s m args below meth c T locs cells slots) {a : Addr} {g : JFrame} (hg : g.method = m) {cc : Nat → Option Nat} {dC : Nat → ClassId} {ci pcH : Nat} {cell : Cell} (hcell : T.heap[a]? = some cell) (hcls : cell.cls = dC ci) (hobj : ∀ k, cell.vm ≠ .statics k) (hci : ∃ k, s.vm.classes[dC ci]? = some k)
    (hcc : ∀ ct cj, cc ct = some cj → ct ≠ 0 ∧ s.vm.ClassLinks e.platform m.cls ct (dC cj) ∧ (∃ k, s.vm.classes[dC cj]? = some k) ∧ (s.vm.assignable (dC ci) (dC cj) = true ↔ cj = ci)) (hhit : mm_hit cc g.pc ci (c.exceptionTable.toList.map (fun h => (h.startPc, h.endPc, h.handlerPc, h.catchType))) = some pcH) :
    ∃ vm', Stand p l e R s m args below meth c (T.setVm vm') locs cells slots ∧ ∀ target, Steps p.tables e below ((T.setVm vm').setTop { g with pc := pcH, stack := [.ref a] }) target → Steps p.tables e below ((T.setTop g).pushFrame (.throwing a)) target := by
  have hpl : e.platform.magicAccessors = ({} : Platform).magicAccessors := by rw [X.admits.platform]
  subst hg
  have hvm : ((T.setTop g).pushFrame (.throwing a)).vm = T.vm := Stand.throwing_vm T g a
  have hhp : ((T.setTop g).pushFrame (.throwing a)).heap = T.heap := Stand.throwing_heap T g a
  obtain ⟨vm', hW', hq⟩ := mm_finds (f := g) (a := a) hpl hcc hcls hci hobj c.exceptionTable.toList ((T.setTop g).pushFrame (.throwing a)) (by rw [hvm]; exact X.warmed) (by rw [hhp]; exact hcell) hhit
  refine ⟨vm', X.noted hW', fun target hrest => ?_⟩
  have h := X.here
  obtain ⟨hgo, hw⟩ := h.throwing (g := g) a
  refine Steps.head hgo hw ?_
  have hfind : ∀ (Q : Handler → Pre) (E : CtlPost) (d : Bool) (acts : List Action), wp (findHandler g a) Q E e d acts ((T.setTop g).pushFrame (.throwing a)) ↔ Q (.found pcH) d acts (((T.setTop g).pushFrame (.throwing a)).setVm vm') := fun Q E d acts => by
    rw [W.findHandler_eq (meth := meth) (code := c) (by rw [hvm]; exact X.method') X.code]
    exact hq Q E d acts
  rw [stepThread_throwing (frames_entered h.top _), (mm_step_catch (s := (T.setTop g).pushFrame (.throwing a)) hfind).1]
  obtain ⟨g₀, hg0⟩ := Option.isSome_iff_exists.mp h.top
  obtain ⟨r, hr⟩ := State.topJava?_eq_some.mp hg0
  have hr' : (T.setVm vm').frames = .java g₀ :: r := hr
  rw [State.setTop_of_frames _ hr'] at hrest
  have hst : (((T.setTop g).pushFrame (.throwing a)).setVm vm').setFrames (.java { g with pc := pcH, stack := [.ref a] } :: T.frames.tail) = (T.setVm vm').setFrames (.java { g with pc := pcH, stack := [.ref a] } :: r) := by
    have hcomm : ∀ (B : State) (x : List Frame), (B.setFrames x).setVm vm' = (B.setVm vm').setFrames x := fun _ _ => rfl
    rw [hr, State.setTop_of_frames _ hr, State.pushFrame, hcomm, hcomm, State.setFrames_setFrames, State.setFrames_setFrames]
    rfl
  rw [hst]
  exact hrest
end MmCatchAt
end
section
/-! AN EXCEPTION's CONSTRUCTOR, with what it leaves of the heap: its own cell alone is changed. -/
section MmMade
variable {p : Program} {l : Launch} {e : Env} {R : Room} {s : State} {m₀ : MethodId} {args : Array Value} {below : List Frame} {meth : Method} {c : Code} {V : State} {locs : List Loc} {cells slots : Nat}
set_option maxHeartbeats 1000000 in
theorem mm_made (X : Stand p l e R s m₀ args below meth c V locs cells slots) (hexec : p.tables.exec = Jvm.exec) (htr : e.platform.stackTraces = false) {own cls : String} {names : List String} {ic : Nat}
    (hown : s.vm.findClass own = some m₀.cls) (hcls : Bundle.fit cls = true) (hnames : ∀ n ∈ names, Bundle.fit n = true) (h : ∀ a ∈ Bundle.ownAtoms own ic cls names, a.before args s = true) (hlocs : ∀ x ∈ locs, ∀ cell, s.heap[x.base]? = some cell → cell.vm.isStatics = false)
    {a : Addr} {cX : ClassId} {kX : Class} (hfoundX : s.vm.findClass cls = some cX) (hkX : s.vm.classes[cX]? = some kX) (hcell : V.heap[a]? = some (freshCell cX kX)) (hnew : s.heap.size ≤ a) {msg : Value} (hmsg : msg.isRef = true)
    {g : JFrame} (hg : g.method = m₀) (hsize : g.locals.size = c.maxLocals) {rest : List Value} (hstack : g.stack = msg :: .ref a :: rest) (hd6 : decode c.code g.pc = .ok (.invokespecial ic, 3))
    (hRframes : names.length + 3 < R.frames) (hRlocals : 2 * g.monitorRoom + (rest.map fun v => v.category).sum + (13 * (names.length + 1) + 42) ≤ R.locals) :
    ∃ (vm' : Vm) (ce : Cell) (lc : List Loc), ce.cls = cX ∧ ce.vm = .none ∧ (∀ x ∈ lc, x.base = a) ∧ Stand p l e R s m₀ args below meth c ((V.setVm vm').setCell a ce) (locs ++ lc) cells slots ∧
      ∀ target, Steps p.tables e below (((V.setVm vm').setCell a ce).setTop { g with pc := g.pc + 3, stack := rest }) target → Steps p.tables e below (V.setTop g) target := by
  have howns : e.platform.frameOwnsMonitors = true := by rw [X.admits.platform]
  have hfin : e.platform.finalization = false := by rw [X.admits.platform]
  have hpl : e.platform.magicAccessors = ({} : Platform).magicAccessors := by rw [X.admits.platform]
  have h' : ∀ x, x ∈ Bundle.ownAtoms own ic cls names → x.holds args s none s [] = true := fun x hx => h x hx
  obtain ⟨T, Z0, LT, -, Y⟩ := ThrowableC.of_atoms (args := args) howns hfin hpl (fun x hx => h x (by simp [Bundle.ownAtoms, hx]))
  obtain ⟨Z, M, LZ, LM, hnZ⟩ := Init0T.ofS_atoms (args := args) hpl LT Y (fun x hx => h x (by simp [Bundle.ownAtoms, hx]))
  obtain ⟨P1, Ps, hlen, L1, hL, hP1m, hlink1, hlink⟩ := Bundle.chainS (args := args) hpl hnZ names cls hcls hnames (fun x hx => h x (by simp [Bundle.ownAtoms, hx]))
  have hfound : s.vm.findClass cls = some P1.m.cls := findClass_of_methodNamed hP1m
  cases Option.some.inj (hfoundX.symm.trans hfound)
  obtain ⟨c1, kX', hc1, hk, hord, -, -, hn6⟩ := Cond.instantiable_spec (h' (.instantiable cls 6) (by simp [Bundle.ownAtoms]))
  cases Option.some.inj (hc1.symm.trans hfound)
  cases Option.some.inj (hkX.symm.trans hk)
  have sel : ∀ (x : MethodName) (mx : MethodId), Cond.selects cls x x ∈ Bundle.ownAtoms own ic cls names → s.methodNamed? x = some mx → (x.cls ≠ "java/lang/invoke/MethodHandle" ∧ x.cls ≠ "java/lang/invoke/VarHandle") → selectMethod e.platform s.vm P1.m.cls mx = .method mx := by
    intro x mx hx hn hy
    obtain ⟨c2, r2, m2, q1, q2, q3, q4, -⟩ := Cond.selects_spec (h' _ hx)
    cases Option.some.inj (q1.symm.trans hfound)
    cases Option.some.inj (q2.symm.trans (State.methodFound?_of_named hn hy))
    cases Option.some.inj (q3.symm.trans hn)
    rw [Launch.admits_selectMethod X.admits]; exact q4
  obtain ⟨cellS0, hcS0, hiss⟩ := Y.statics
  obtain ⟨u0, hu0⟩ := Cond.staticRefV Y.unassigned LT.unassignedStatic LT.statics hcS0 hiss (h' (.isRef (.static Bundle.tN "UNASSIGNED_STACK" Bundle.steD)) (by simp [Bundle.ownAtoms]))
  obtain ⟨sen, hsen⟩ := Cond.staticRefV Y.sentinel LT.sentinelStatic LT.statics hcS0 hiss (h' (.isRef (.static Bundle.tN "SUPPRESSED_SENTINEL" Bundle.listD)) (by simp [Bundle.ownAtoms]))
  obtain ⟨ci198, i198, fB, hk198, hg198, ha198, hsB, -, hnB, htB, hffB⟩ := Cond.ownField (t := .object "java/lang/Object") Y.found LT.cls (by decide +kernel) (h' (.fieldLink Bundle.tN 198 Bundle.tN "backtrace" "Ljava/lang/Object;") (by simp [Bundle.ownAtoms])) (h' (.lays Bundle.tN Bundle.tN "backtrace" "Ljava/lang/Object;") (by simp [Bundle.ownAtoms])) e.platform hpl
  obtain ⟨cellS, hcS', heS, -, hkeep⟩ := X.same.2.2.2.2.2 T.aS cellS0 hcS0
  have hcellS : V.heap[T.aS]? = some cellS := hcS'
  have hout' : ∀ i, (⟨T.aS, i⟩ : Loc) ∉ locs := fun i hmem => by
    have := hlocs _ hmem cellS0 hcS0
    rw [hiss] at this; cases this
  have hknownS : cellS.vm ≠ .unknown := by
    rw [heS]; intro hu
    rw [show cellS0.vm = .unknown from hu] at hiss
    cases hiss
  have hneS : T.aS ≠ a := Nat.ne_of_lt (Nat.lt_of_lt_of_le (Array.getElem?_eq_some_iff.mp hcS0).1 hnew)
  obtain ⟨iM, hffM⟩ := Y.msg
  obtain ⟨tyC, dC, hdC, hdnC⟩ := Cond.laysAt hfound hk Y.cause (h' (.lays cls Bundle.tN "cause" "Ljava/lang/Throwable;") (by simp [Bundle.ownAtoms]))
  obtain ⟨tyS, dS, hdS, hdnS⟩ := Cond.laysAt hfound hk Y.stack (h' (.lays cls Bundle.tN "stackTrace" Bundle.steD) (by simp [Bundle.ownAtoms]))
  obtain ⟨tyP, dP, hdP, hdnP⟩ := Cond.laysAt hfound hk Y.supp (h' (.lays cls Bundle.tN "suppressedExceptions" Bundle.listD) (by simp [Bundle.ownAtoms]))
  obtain ⟨tyM, dM, hdM, hdnM⟩ := Cond.laysAt hfound hk hffM (h' (.lays cls Bundle.tN "detailMessage" "Ljava/lang/String;") (by simp [Bundle.ownAtoms]))
  obtain ⟨tyB, dB, hdB, hdnB⟩ := Cond.laysAt hfound hk hffB (h' (.lays cls Bundle.tN "backtrace" "Ljava/lang/Object;") (by simp [Bundle.ownAtoms]))
  have bC := Cond.laysApart hdB hdC hdnB hdnC (by rw [hnB, Y.causeName]; decide)
  have bS := Cond.laysApart hdB hdS hdnB hdnS (by rw [hnB, Y.stackName]; decide)
  have bP := Cond.laysApart hdB hdP hdnB hdnP (by rw [hnB, Y.suppName]; decide)
  have hskip : SkipFacts T e.platform s (fun u => u) u0 ((preparedCellV T.toThrowableT (freshCell P1.m.cls kX) a u0 sen).withEntry V.cur) :=
    ⟨{ ci198 := ci198, i198 := i198, fBack := fB }, ⟨hk198, hg198, ha198, hsB⟩, by
      have := fresh_default (c := P1.m.cls) tyB
      rw [htB] at this
      simpa [preparedCellV, Cell.setSlot, Cell.withEntry, Array.getElem?_setIfInBounds, bC, bS, bP, bC.symm, bS.symm, bP.symm, defaultValue] using this, fun _ _ => rfl⟩
  obtain ⟨tm, methC, cdC, kC, vm₁, hnC, -, -, -, -, -, -, -, hW₁, st1⟩ := Steps.initColdS (tb := p.tables) (e := e) (below := below) (s := s) (U := V) X.here hexec X.warmed hpl hown (t := Bundle.initS cls) rfl rfl (Bundle.fit_spec hcls).2
    (h' (.methodLink own ic (Bundle.initS cls)) (by simp [Bundle.ownAtoms])) (h (.instanceMethod (Bundle.initS cls)) (by cases names <;> simp [Bundle.ownAtoms, Bundle.chainSAtoms, Bundle.passSAtoms])) (bytes := Bundle.six) (maxL := 2) (h (.code (Bundle.initS cls) Bundle.six 2 none) (by cases names <;> simp [Bundle.ownAtoms, Bundle.chainSAtoms, Bundle.passSAtoms]))
    (f := g) hg (a := a) (msg := msg) (rest := rest) hstack hd6
  cases Option.some.inj (hnC.symm.trans hP1m)
  have X₁ := X.noted hW₁
  obtain ⟨vm₂, X₂, st2⟩ := X₁.ctorMessageOffV hexec (g := { g with stack := rest }) hg hsize T LT Z LZ M LM (P1 :: Ps)
    (fun P hP => by rcases List.mem_cons.mp hP with rfl | hP; exact L1; exact hL P hP) ⟨hlink1, hlink⟩ (u0 := u0) (sen := sen) (self := a) hmsg (cell := freshCell P1.m.cls kX) (cellS := cellS)
    hcell (fun _ => by simp) (by simp) rfl rfl (sel _ _ (by simp [Bundle.ownAtoms]) Y.fill0 (by decide)) (sel _ _ (by simp [Bundle.ownAtoms]) Y.fill (by decide)) hcellS hneS hknownS (by rw [hkeep _ (hout' _)]; exact hu0) (by rw [hkeep _ (hout' _)]; exact hsen)
    (Takes.of_laid hk hord tyC (by rw [Y.causeType]; rfl)) (Takes.of_laid hk hord tyS (by rw [Y.stackType]; exact fits_refV_array _ u0)) (Takes.of_laid hk hord tyP (by rw [Y.suppType]; exact fits_refV_object _ sen))
    (Takes.of_laid hk hord tyM (by rw [Y.msgType]; exact fits_refV_object _ ⟨msg, hmsg⟩)) Y.objLocals hskip htr [] hd6
    (by simp only [List.length_cons, hlen]; omega) (by simp only [List.length_cons, hlen]; exact hRlocals)
  refine ⟨vm₂, _, _, ?_, ?_, ?_, X₂, fun target ht => st1 _ (fun acts => ?_)⟩
  · rfl
  · rfl
  · intro x hx
    simp only [List.mem_cons, List.not_mem_nil, or_false] at hx
    rcases hx with rfl | rfl | rfl | rfl | rfl <;> rfl
  · rw [doInvoke_state]
    exact st2 _ ht
end MmMade
end
section
/-! WHAT HOLDS AT THE LAW's START s0 HOLDS AT EVERY METHOD's START s: the tables are only warmer, the cells that were there are as they were. -/
def mm_B (s0 : State) (z : Nat) (s : State) : Prop := s0.WarmedH s.vm ∧ s0.heap.size = z ∧ ∀ q, q < z → s.heap[q]? = s0.heap[q]?
section MmBase
variable {s0 s : State} {z : Nat} {a0 args : Array Value}
theorem mm_B.good (B : mm_B s0 z s) {w : Cond} (hg : goodWord w = true) (h : w.before a0 s0 = true) : w.before args s = true := word_at B.1 (good_of_word hg) h
theorem mm_B.castable (B : mm_B s0 z s) {x y : String} (h : (Cond.castable x y).before a0 s0 = true) : (Cond.castable x y).before args s = true := by
  have h1 : (Cond.castable x y).before a0 (s0.setVm s.vm) = true := Cond.before_shiftedFace (State.Shifted.of_warmed B.1) _ rfl h
  exact h1
theorem mm_B.declares (B : mm_B s0 z s) {x : MethodName} (h : (Cond.declares x).before a0 s0 = true) : (Cond.declares x).before args s = true := by
  have h1 : (Cond.declares x).before a0 (s0.setVm s.vm) = true := Cond.before_shiftedFace (State.Shifted.of_warmed B.1) _ rfl h
  exact h1
theorem mm_B.laysStatic (B : mm_B s0 z s) {C n d : String} (h : (Cond.laysStatic C n d).before a0 s0 = true) : (Cond.laysStatic C n d).before args s = true := by
  have h1 : (Cond.laysStatic C n d).before a0 (s0.setVm s.vm) = true := Cond.laysStatic_setVm B.1.alike h
  obtain ⟨c, k, i, f, a, cell, q1, q2, q3, q4, q5, q6, q7, q8, q9⟩ := Cond.laysStatic_spec h1
  have q5' : s0.heap[a]? = some cell := q5
  have q5 : s.heap[a]? = some cell := by
    rw [B.2.2 a (by rw [← B.2.1]; exact (Array.getElem?_eq_some_iff.mp q5').1)]; exact q5'
  have q1 : s.vm.findClass C = some c := q1
  have q2 : s.fieldFound? C n d = some (c, k, i, f) := q2
  simp [Cond.before, Cond.holds, Cond.value, q1, q2, q3, q4, q5, q6, q7, q8, q9]
theorem mm_B.isRefStatic (B : mm_B s0 z s) {C n d : String} (hl : (Cond.laysStatic C n d).before a0 s0 = true) (h : (Cond.isRef (.static C n d)).before a0 s0 = true) : (Cond.isRef (.static C n d)).before args s = true := by
  have hv : ∃ v, (Term.static C n d).eval a0 s0 none [] s0 = some v ∧ (v = .null ∨ ∃ q, v = .ref q) := by
    simp only [Cond.before, Cond.holds, Cond.value] at h
    cases hv : (Term.static C n d).eval a0 s0 none [] s0 with
    | none => simp [hv] at h
    | some v => exact ⟨v, rfl, by cases v <;> simp [hv] at h <;> simp⟩
  obtain ⟨v, hv, hr⟩ := hv
  obtain ⟨c, k, i, f, a, cell, q1, q2, q3, q4, q5, q6, q7, q8, q9⟩ := Cond.laysStatic_spec hl
  obtain ⟨-, a', cell', ha', hcell', hun, hslot⟩ := Term.static_spec q2 hv
  cases q4.symm.trans ha'
  cases q5.symm.trans hcell'
  have q5' : s.heap[a]? = some cell := by
    rw [B.2.2 a (by rw [← B.2.1]; exact (Array.getElem?_eq_some_iff.mp q5).1)]; exact q5
  obtain ⟨k', hi', he⟩ := State.fieldFound?_setVm (vm' := s.vm) B.1.alike q2
  have hi' : s.fieldFound? C n d = some (c, k', i, f) := hi'
  have hst' : k'.statics = some a := by rw [he]; exact q4
  have : (Term.static C n d).eval args s none [] s = some v := by
    simp [Term.eval, State.fieldNamed?, hi', q3, hst', q5', q6, hslot]
  rcases hr with rfl | ⟨q, rfl⟩ <;> simp [Cond.before, Cond.holds, Cond.value, this]
theorem mm_B.over (B : mm_B s0 z s) {C : String} (h : (Cond.arrayOver (.object C)).before a0 s0 = true) : (Cond.arrayOver (.object C)).before args s = true :=
  va_AO.use (va_AO.moved B.1.alike (va_AO.of h))
theorem mm_B.string (B : mm_B s0 z s) {own tx : String} {i : Nat} (h : (Cond.stringRef own i tx).before a0 s0 = true) : ∃ a, vk_R own i tx a s := by
  have hc : ∃ cur, s0.vm.findClass own = some cur := by
    have h1 := h
    simp only [Cond.before, Cond.holds, Cond.value] at h1
    cases hc : s0.vm.findClass own with
    | none => simp [hc] at h1
    | some cur => exact ⟨cur, rfl⟩
  obtain ⟨cur, hc⟩ := hc
  obtain ⟨k, cf, i', a, -, -, -, -, -, he⟩ := Cond.stringRef_spec hc h
  exact ⟨a, vk_R.warm B.1 (vk_R.of h he)⟩
theorem mm_B.refl (hz : s0.heap.size = z) : mm_B s0 z s0 := ⟨State.WarmedH.refl s0, hz, fun _ _ => rfl⟩
end MmBase
theorem mm_B.overA {s0 s : State} {z : Nat} {a0 args : Array Value} (B : mm_B s0 z s) {y : FieldType} (h : (Cond.arrayOver (.array y)).before a0 s0 = true) : (Cond.arrayOver (.array y)).before args s = true := by
  obtain ⟨comp, c, k, h1, h2, h3, h4, h5⟩ := arrayOverA_spec h
  have hvm := B.1.alike
  obtain ⟨k', hk', he⟩ := hvm.2.2 _ _ h3
  have hi : (s.vm.classes.findIdx? fun (x : Class) => match x.kind with | .array component _ => component == comp | _ => false) = some c := by
    rw [hvm.findIdx?_eq _ (fun _ => rfl)]; exact h2
  have hkind : k'.kind = .array comp (.array y) := by rw [he]; exact h4
  have f1 : s.vm.findClass (FieldType.array y).toString = some comp := by rw [hvm.findClass]; exact h1
  have f2 : s.vm.findClass ("[" ++ (FieldType.array y).toString) = some c := by rw [hvm.findClass]; exact h5
  unfold Cond.before Cond.holds
  simp only [Cond.value]
  rw [f1, Option.bind_some]
  refine (congrArg (fun o : Option Nat => (o.bind (fun c => (s.vm.classes[c]?).map fun (k : Class) => match k.kind with | .array _ ty => decide (ty = FieldType.array y) && decide (s.vm.findClass ("[" ++ (FieldType.array y).toString) = some c) | _ => false) == some true)) hi).trans ?_
  simp [hk', hkind, f2]
theorem mm_B.nest {s0 s : State} {z : Nat} {a0 args : Array Value} (B : mm_B s0 z s) {a : String} {i : Nat} {x : MethodName} {h : String} (hw : (Cond.methodLinkNest a i x h).before a0 s0 = true) : (Cond.methodLinkNest a i x h).before args s = true :=
  va_Nw.use rfl (va_Nw.warmM B.1 (va_Nw.of rfl hw))
def mm_gw (w : Cond) : Bool := goodWord w || match w with
  | .castable _ _ => true
  | .declares _ => true
  | .laysStatic _ _ _ => true
  | .arrayOver (.object _) => true
  | .arrayOver (.array _) => true
  | .methodLinkNest _ _ _ _ => true
  | _ => false
theorem mm_B.word {s0 s : State} {z : Nat} {a0 args : Array Value} (B : mm_B s0 z s) {w : Cond} (hg : mm_gw w = true) (h : w.before a0 s0 = true) : w.before args s = true := by
  unfold mm_gw at hg
  rcases Bool.or_eq_true _ _ |>.mp hg with h1 | h1
  · exact B.good h1 h
  · split at h1
    · exact B.castable h
    · exact B.declares h
    · exact B.laysStatic h
    · exact B.over h
    · exact B.overA h
    · exact B.nest h
    · cases h1
end
section
/-! THE SMALL MACHINE: a method's run is a Prop. -/
abbrev mm_O : Type := Option Value ⊕ (Nat × Nat)
abbrev mm_K : Type := mm_O → List va_E → Nat → Prop
def mm_look : List (Nat × Instr) → Nat → Option Instr
  | [], _ => none
  | q :: r, pc => if q.1 = pc then some q.2 else mm_look r pc
theorem mm_look_mem {pc : Nat} {ins : Instr} : ∀ {l : List (Nat × Instr)}, mm_look l pc = some ins → (pc, ins) ∈ l
  | [], h => by simp [mm_look] at h
  | q :: r, h => by
    unfold mm_look at h
    split at h
    · rename_i hq
      cases h
      subst hq
      exact List.mem_cons_self
    · exact List.mem_cons_of_mem _ (mm_look_mem h)
/-- so many values off the stack, in the order of a call's -/
def mm_take : Nat → List Value → List Value → Option (List Value × List Value)
  | 0, as, st => some (as, st)
  | _ + 1, _, [] => none
  | n + 1, as, v :: st => mm_take n (v :: as) st
theorem mm_take_ok : ∀ (n : Nat) (as st as' r : List Value), mm_take n as st = some (as', r) → ∃ bs, as' = bs ++ as ∧ bs.length = n ∧ st = bs.reverse ++ r
  | 0, as, st, as', r, h => by
    simp only [mm_take, Option.some.injEq, Prod.mk.injEq] at h
    exact ⟨[], by simp [h.1], rfl, by simp [h.2]⟩
  | n + 1, as, [], as', r, h => by simp [mm_take] at h
  | n + 1, as, v :: st, as', r, h => by
    obtain ⟨bs, h1, h2, h3⟩ := mm_take_ok n (v :: as) st as' r h
    exact ⟨bs ++ [v], by simp [h1], by simp [h2], by simp [h3]⟩
def mm_cats (st : List Value) : Nat := (st.map fun v => v.category).sum
theorem mm_cats_S (A : Nat → Nat) (st : List Value) : ((mm_S A st).map fun v => v.category).sum = mm_cats st := by
  simp only [mm_S, mm_cats, List.map_map]
  congr 1
  exact List.map_congr_left (fun v _ => mm_cat A v)
/-- does the receiver fit a call: its class is the method's -/
def mm_recv (P : mm_P) (k' : Nat) (as : List Value) (g : List va_E) : Bool := match as with
  | .ref (q + 1) :: _ => match g[q]? with
    | some (.inr (ci, _)) => decide (ci = mm_kc P k')
    | _ => false
  | _ => false
def mm_isref : List Value → Bool
  | .ref _ :: _ => true
  | _ => false
abbrev mm_Call : Type := Nat → List Value → List va_E → Nat → mm_K → Prop
/-- what is done behind a call -/
def mm_back (P : mm_P) (k : Nat) (nx : Nat → List Value → List va_E → Nat → Prop) (Q : mm_K) (pc : Nat) (r : List Value) : mm_K := fun o g sl => match o with
  | .inl v => nx (pc + 3) (v.toList ++ r) g sl
  | .inr x => match mm_kh P k pc x.1 with
    | some h => h ≠ 999999 ∧ nx h [.ref x.2] g sl
    | none => Q (.inr x) g sl
def mm_s3 (P : mm_P) (call : mm_Call) (k : Nat) (nx : Nat → List Value → List va_E → Nat → Prop) (Q : mm_K) (ins : Instr) (pc : Nat) (st : List Value) (g : List va_E) (sl : Nat) : Prop :=
  match ins with
  | .ireturn => match st with
    | [.int x] => match mm_kr P k with
      | some .int => Q (.inl (some (.int x))) g sl
      | some ty => narrow ty (.int x) = .int x ∧ Q (.inl (some (.int x))) g sl
      | none => False
    | _ => False
  | .lreturn => match st with
    | [.long x] => match mm_kr P k with
      | some .long => Q (.inl (some (.long x))) g sl
      | _ => False
    | _ => False
  | .areturn => match st with
    | [v] => match mm_kind 2 v with
      | true => match mm_kr P k with
        | some (.object _) => Q (.inl (some v)) g sl
        | some (.array _) => Q (.inl (some v)) g sl
        | _ => False
      | false => False
    | _ => False
  | .return_ => match st with
    | [] => match mm_kr P k with
      | none => Q (.inl none) g sl
      | some _ => False
    | _ => False
  | .invokestatic i => match mm_ml P (mm_kc P k) i with
    | some (k', na, 0) => match mm_take na [] st with
      | some (as, r) => match decide (mm_cats r + mm_kl P k' + 11 ≤ 64 ∧ mm_cats as ≤ mm_kl P k') with
        | true => call k' as g sl (mm_back P k nx Q pc r)
        | false => False
      | none => False
    | some (k', na, 5) => match mm_take na [] st with
      | some (as, r) => match decide (mm_cats r + mm_kl P k' + 11 ≤ 64 ∧ mm_cats as ≤ mm_kl P k') with
        | true => call k' as g sl (mm_back P k nx Q pc r)
        | false => False
      | none => False
    | some (_, _, 4) => match st with
      | .int n :: .int dp :: .ref (q2 + 1) :: .int sp :: .ref (q1 + 1) :: r => match g[q1]? with
        | some (.inl (1, n1, .inr (.inl f1))) => match g[q2]? with
          | some (.inl (1, n2, .inr (.inl f2))) => match decide (mm_cats r ≤ 24) with
            | true => (¬ sp < 0 ∧ ¬ dp < 0 ∧ ¬ n < 0 ∧ sp.toNatClampNeg + n.toNatClampNeg ≤ n1 ∧ dp.toNatClampNeg + n.toNatClampNeg ≤ n2) ∧ nx (pc + 3) r (g.set q2 (.inl (1, n2, .inr (.inl (va_cpy f1 f2 sp.toNatClampNeg dp.toNatClampNeg n.toNatClampNeg))))) sl
            | false => False
          | _ => False
        | _ => False
      | _ => False
    | _ => False
  | .invokevirtual i => match mm_ml P (mm_kc P k) i with
    | some (k', na, 1) => match mm_take na [] st with
      | some (as, r) => match decide (mm_cats r + mm_kl P k' + 11 ≤ 64 ∧ mm_cats as ≤ mm_kl P k') && mm_recv P k' as g with
        | true => call k' as g sl (mm_back P k nx Q pc r)
        | false => False
      | none => False
    | _ => False
  | .invokespecial i => match mm_ml P (mm_kc P k) i with
    | some (k', na, 2) => match mm_take na [] st with
      | some (as, r) => match decide (mm_cats r + mm_kl P k' + 11 ≤ 64 ∧ mm_cats as ≤ mm_kl P k') && mm_isref as with
        | true => call k' as g sl (mm_back P k nx Q pc r)
        | false => False
      | none => False
    | some (_, _, 3) => match st with
      | .ref _ :: r => match decide (mm_cats r + 12 ≤ 64) with
        | true => nx (pc + 3) r g sl
        | false => False
      | _ => False
    | _ => False
  | _ => False
def mm_w (P : mm_P) (Ln : Nat) (xs : Nat → Int32) (call : mm_Call) (k : Nat) : Nat → Nat → List (Nat × Value) → List Value → List va_E → Nat → mm_K → Prop
  | 0, _, _, _, _, _, _ => False
  | n + 1, pc, ls, st, g, sl, Q =>
    match mm_xt P k pc with
    | some ci => (g.length + 1 ≤ mm_CM P ∧ sl + 6 ≤ mm_SM P ∧ mm_cats st ≤ 8) ∧ Q (.inr (ci, g.length + 1)) (g ++ [.inr (ci, [])]) (sl + 6)
    | none =>
    match mm_sw P k pc with
    | some (lo, dt, ts) => match st with
      | .int x :: r => ((x.toInt < lo ∨ lo + (ts.length : Int) - 1 < x.toInt) → mm_w P Ln xs call k n dt ls r g sl Q) ∧ ∀ (i t : Nat), ts[i]? = some t → x.toInt = lo + (i : Int) → mm_w P Ln xs call k n t ls r g sl Q
      | _ => False
    | none =>
    match mm_look (mm_kd P k) pc with
    | none => False
    | some ins =>
    match mm_s1 (mm_kl P k) (fun pc ls st => mm_w P Ln xs call k n pc ls st g sl Q) ins pc ls st with
    | some X => X
    | none =>
    match mm_s2 P k Ln xs (fun pc st g sl => mm_w P Ln xs call k n pc ls st g sl Q) ins pc st g sl with
    | some X => X
    | none => mm_s3 P call k (fun pc st g sl => mm_w P Ln xs call k n pc ls st g sl Q) Q ins pc st g sl
def mm_call (P : mm_P) (Ln : Nat) (xs : Nat → Int32) : Nat → mm_Call
  | 0 => fun _ _ _ _ _ => False
  | d + 1 => fun k as g sl Q => ∃ n, mm_w P Ln xs (mm_call P Ln xs d) k n 0 (lv_args 0 as) [] g sl Q
end
section
/-! INTO A CALL AND OUT OF IT. -/
def mm_out (b z : Nat) (xX : Nat → Prop) (g : List va_E) (oc : mm_O) (o : Outcome) : Prop := match oc with
  | .inl v => o = .returned (v.map (mm_v (mm_A b z)))
  | .inr x => o = .threw (mm_A b z x.2) ∧ xX x.1 ∧ ∃ q, x.2 = q + 1 ∧ g[q]? = some (.inr (x.1, []))
def mm_end (P : mm_P) (D : va_G) (cl : List vw_C) (cT : Nat → Nat) (b z Ln : Nat) (xs : Nat → Int32) (xX : Nat → Prop) (s : State) (below : List Frame) (gl0 sl0 : Nat) (Q : mm_K) : State → Prop := fun t =>
  ∃ (o : Outcome) (oc : mm_O) (g' : List va_E) (sl' : Nat) (lc : List Loc) (ce ss : Nat), t.status = .running ∧ Ended t below o ∧ s.WarmedH t.vm ∧ s.sameButNew ({ t with vm := s.vm } : State) lc ce ss ∧ mm_R D cl cT b z Ln xs s g' t.heap lc ∧ mm_cnt P gl0 sl0 ce ss g' sl' ∧ Q oc g' sl' ∧ mm_out b z xX g' oc o
theorem mm_args (A : Nat → Nat) : ∀ (as : List Value) (i : Nat), lv_args i (mm_S A as) = mm_L A (lv_args i as)
  | [], i => rfl
  | v :: r, i => by
    have := mm_args A r (if v.category = 2 then i + 2 else i + 1)
    simp only [mm_S, List.map_cons, lv_args, mm_cat, mm_L] at this ⊢
    rw [this]
theorem mm_slots (A : Nat → Nat) : ∀ (as : List Value), (lg_sl (mm_S A as)).length = mm_cats as
  | [] => rfl
  | v :: r => by
    have := mm_slots A r
    simp only [mm_S, List.map_cons, lg_sl, List.flatMap_cons, List.length_append, mm_cats, List.sum_cons, mm_cat] at this ⊢
    rw [this]
    rcases lv_cat v with h | h <;> simp [h]
theorem mm_R.start {D : va_G} {cl : List vw_C} {cT : Nat → Nat} {b z Ln : Nat} {xs : Nat → Int32} {s s' : State} {g : List va_E} {H : Heap} {locs : List Loc} (r : mm_R D cl cT b z Ln xs s g H locs) (hH : s'.heap = H) (hvm : s.vm.Alike s'.vm) : mm_R D cl cT b z Ln xs s' g H [] := by
  obtain ⟨h1, h2, h3, h4, h5, h6⟩ := id r
  refine ⟨h1, h2, by rw [hH]; exact va_S.rf, ?_, h5, by rw [hH]; omega⟩
  rw [hH]
  exact va_X.moved hvm r.X
theorem mm_R.after {D : va_G} {cl : List vw_C} {cT : Nat → Nat} {b z Ln : Nat} {xs : Nat → Int32} {s s' : State} {g g' : List va_E} {H H' : Heap} {locs lc : List Loc} (r : mm_R D cl cT b z Ln xs s g H locs) (hH : s'.heap = H) (r' : mm_R D cl cT b z Ln xs s' g' H' lc) : mm_R D cl cT b z Ln xs s g' H' (locs ++ lc) := by
  obtain ⟨h1, h2, h3, h4, h5, h6⟩ := r
  obtain ⟨k1, k2, k3, k4, k5, k6⟩ := r'
  rw [hH] at k3
  refine ⟨k1, k2, ⟨Nat.le_trans h3.1 k3.1, fun q hq hn => ?_, fun l hl => ?_⟩, h4, h5, h6⟩
  · rw [k3.2.1 q (by have := h3.1; omega) hn]
    exact h3.2.1 q hq hn
  · rcases List.mem_append.mp hl with q | q
    · exact h3.2.2 l q
    · exact k3.2.2 l q
section MmEnter
variable {p : Program} {l : Launch} {e : Env} {R : Room} {s : State} {m : MethodId} {args : Array Value} {below : List Frame} {meth : Method} {c : Code} {T : State} {locs : List Loc} {cells slots : Nat} {D : va_G} {cl : List vw_C} {cT : Nat → Nat} {b z Ln : Nat} {xs : Nat → Int32} {P : mm_P} {gl0 sl0 sl : Nat} {xX : Nat → Prop} {gq : List va_E}
theorem mm_enter (X : Stand p l e R s m args below meth c T locs cells slots) {g : JFrame} (hg : g.method = m) (hsize : g.locals.size = c.maxLocals) {ig : Instr} (hdg : decode c.code g.pc = .ok (ig, 3)) (hmr : g.monitorRoom = 0)
    {mk : MethodId} {methk : Method} {ck : Code} (as : List Value) (hmk : T.vm.method? mk = some methk) (hck : methk.code = some ck) (hlk : methk.locks = false) (hpk : T.plainMethod mk) {R' : Room} (hframes : R'.frames + 1 ≤ R.frames) (hlocals : (g.stack.map fun v => v.category).sum + (ck.maxLocals + 11) + R'.locals ≤ R.locals) (hcells : cells + R'.cells ≤ R.cells) (hslots : slots + R'.slots ≤ R.slots)
    (hR : mm_R D cl cT b z Ln xs s gq T.heap locs) (hcat : mm_cats as ≤ ck.maxLocals) {Q' : mm_K} (hcnt : mm_cnt P gl0 sl0 cells slots gq sl)
    (hW : ∀ L, lv_has L ck.maxLocals (mm_L (mm_A b z) (lv_args 0 as)) → mm_R D cl cT b z Ln xs (T.calling g mk (mm_S (mm_A b z) as).toArray) gq T.heap [] → W p l e R' (T.calling g mk (mm_S (mm_A b z) as).toArray) mk (mm_S (mm_A b z) as).toArray (.java g :: below) methk ck T.heap [] 0 0 (mm_end P D cl cT b z Ln xs xX (T.calling g mk (mm_S (mm_A b z) as).toArray) (.java g :: below) gq.length sl Q') (F0 mk 0 L [])) :
    ∃ (oc : mm_O) (g' : List va_E) (sl' : Nat) (T' : State) (lc : List Loc) (ce ss : Nat), Stand p l e R s m args below meth c T' (locs ++ lc) (cells + ce) (slots + ss) ∧ mm_R D cl cT b z Ln xs s g' T'.heap (locs ++ lc) ∧ mm_cnt P gl0 sl0 (cells + ce) (slots + ss) g' sl' ∧ Q' oc g' sl' ∧
      match oc with
      | .inl v => ∀ acts, Steps p.tables e below (doInvoke e (T.setTop g) acts mk (mm_S (mm_A b z) as).toArray).1 (T'.setTop { g with pc := g.pc + 3, stack := (v.map (mm_v (mm_A b z))).toList ++ g.stack })
      | .inr x => xX x.1 ∧ (∃ q, x.2 = q + 1 ∧ g'[q]? = some (.inr (x.1, []))) ∧ ∀ acts, Steps p.tables e below (doInvoke e (T.setTop g) acts mk (mm_S (mm_A b z) as).toArray).1 ((T'.setTop g).pushFrame (.throwing (mm_A b z x.2))) := by
  obtain ⟨Y, hin⟩ := X.into hg hsize hdg (mm_S (mm_A b z) as).toArray (R' := R') hmk hck hlk hpk hframes (by rw [hmr]; omega) hcells hslots
  have hl := lv_entry (mm_S (mm_A b z) as) (n := ck.maxLocals) (by rw [mm_slots]; exact hcat)
  rw [mm_args] at hl
  rw [lg_entry_eq] at Y hin
  generalize (lg_sl (mm_S (mm_A b z) as) ++ List.replicate (ck.maxLocals - (lg_sl (mm_S (mm_A b z) as)).length) Slot.unset).toArray = L at hl Y hin
  have hheap : (T.calling g mk (mm_S (mm_A b z) as).toArray).heap = T.heap := by
    simp [State.calling, State.pushFrame, State.setFrames, State.setTop, State.modifyTopJava]
  have hvm : (T.calling g mk (mm_S (mm_A b z) as).toArray).vm = T.vm := by
    simp [State.calling, State.pushFrame, State.setFrames, State.setTop, State.modifyTopJava]
  have hUh : ((T.setTop g).pushFrame (.java (F0 mk 0 L []))).heap = T.heap := by
    simp [State.pushFrame, State.setFrames, State.setTop, State.modifyTopJava]
  have hal : s.vm.Alike (T.calling g mk (mm_S (mm_A b z) as).toArray).vm := by rw [hvm]; exact X.warmed.alike
  obtain ⟨t, hst, o, oc, g', sl', lc, ce, ss, -, hended, hWe, hsame, hR', hcnt', hQ, hout⟩ := hW L hl (hR.start hheap hal) _ hUh Y
  have hRa := hR.after hheap hR'
  obtain ⟨c1, c2, c3, c4⟩ := hcnt
  obtain ⟨d1, d2, d3, d4⟩ := hcnt'
  have hcn : mm_cnt P gl0 sl0 (cells + ce) (slots + ss) g' sl' := ⟨by omega, by omega, d3, d4⟩
  have hst := Steps.weaken (mid := [.java g]) hst
  cases oc with
  | inl v =>
    have ho : o = .returned (v.map (mm_v (mm_A b z))) := hout
    subst ho
    obtain ⟨T', X', -, -, ht⟩ := X.outOf hg hdg hended hWe hsame
    have hh : T'.heap = t.heap := by rw [ht]; simp [State.setTop, State.modifyTopJava]
    refine ⟨.inl v, g', sl', T', lc, ce, ss, X', by rw [hh]; exact hRa, hcn, hQ, fun acts => ?_⟩
    rw [hin acts, ← ht]
    exact hst
  | inr x =>
    obtain ⟨ho, hx, hq⟩ : o = .threw (mm_A b z x.2) ∧ xX x.1 ∧ ∃ q, x.2 = q + 1 ∧ g'[q]? = some (.inr (x.1, [])) := hout
    subst ho
    obtain ⟨T', X', -, -, ht⟩ := X.outOfThrown hg hended hWe hsame
    have hh : T'.heap = t.heap := by rw [ht, Stand.throwing_heap]
    refine ⟨.inr x, g', sl', T', lc, ce, ss, X', by rw [hh]; exact hRa, hcn, hQ, hx, hq, fun acts => ?_⟩
    rw [hin acts, ← ht]
    exact hst
end MmEnter
end
section
/-! THE SMALL MACHINE TELLS THE TRUTH of the great one. -/
/-- the word of a method's code -/
def mm_kw (P : mm_P) (ky : Nat → MethodName) (kb : Nat → ByteArray) (hs : Nat → List (Nat × Nat × Nat × Nat)) (TB : List Cond) (k : Nat) : Prop :=
  (Cond.code (ky k) (kb k) (mm_kl P k) (mm_kr P k) ∈ TB ∧ hs k = []) ∨ Cond.codeWith (ky k) (kb k) (mm_kl P k) (mm_kr P k) (hs k) ∈ TB
/-- the tables tell the truth, so far as code, calls, throws and catches go -/
def mm_ok3 (P : mm_P) (TB : List Cond) (SB : List (String × Nat × String)) (cl : List vw_C) (cn : Nat → String) (ky : Nat → MethodName) (kb : Nat → ByteArray) (hs : Nat → List (Nat × Nat × Nat × Nat)) (xc : Nat → Nat → Option Nat) (xX : Nat → Prop) : Prop :=
  (∀ k q, q ∈ mm_kd P k → decode (kb k) q.1 = .ok (q.2, mm_ln q.2))
  ∧ (∀ k pc lo dt ts, mm_sw P k pc = some (lo, dt, ts) → ∃ (dflt : Int) (offs : Array Int) (len : Nat), decode (kb k) pc = .ok (.tableswitch dflt lo (lo + (ts.length : Int) - 1) offs, len) ∧ (pc : Int) + dflt = (dt : Int) ∧ ∀ i t : Nat, ts[i]? = some t → ∃ off, offs[i]? = some off ∧ (pc : Int) + off = (t : Int))
  ∧ (∀ o i k' na kd, mm_ml P o i = some (k', na, kd) → kd ≠ 3 → kd ≠ 4 → mm_kw P ky kb hs TB k' ∧ (kd = 5 ∨ Cond.methodLink (cn o) i (ky k') ∈ TB) ∧ Cond.initialized (ky k').cls ∈ TB ∧ ((ky k').cls ≠ "java/lang/invoke/MethodHandle" ∧ (ky k').cls ≠ "java/lang/invoke/VarHandle") ∧ plainFor (ky k') = true ∧ cn (mm_kc P k') = (ky k').cls ∧ (mm_ki P k' = true → (ky k').name = "<init>")
      ∧ (kd = 5 → ∃ host, Cond.methodLinkNest (cn o) i (ky k') host ∈ TB)
      ∧ (kd = 0 ∨ kd = 5 → Cond.static (ky k') ∈ TB ∧ (parseMethodDescriptor (ky k').desc).map (fun d => d.parameters.length) = some na)
      ∧ (kd = 1 → Cond.instanceMethod (ky k') ∈ TB ∧ Cond.selects (ky k').cls (ky k') (ky k') ∈ TB ∧ (parseMethodDescriptor (ky k').desc).map (fun d => d.parameters.length + 1) = some na ∧ ∃ T N, cl[mm_kc P k']? = some ((ky k').cls, T, N))
      ∧ (kd = 2 → Cond.instanceMethod (ky k') ∈ TB ∧ (ky k').name = "<init>" ∧ mm_kr P k' = none ∧ Cond.code (ky k') (kb k') (mm_kl P k') none ∈ TB ∧ (parseMethodDescriptor (ky k').desc).map (fun d => d.parameters.length + 1) = some na))
  ∧ (∀ o i k' na, mm_ml P o i = some (k', na, 3) → Cond.methodLink (cn o) i Lib.objectInit ∈ TB ∧ Cond.instanceMethod Lib.objectInit ∈ TB ∧ Cond.code Lib.objectInit ⟨#[0xb1]⟩ 1 none ∈ TB)
  ∧ (∀ o i k' na, mm_ml P o i = some (k', na, 4) → Cond.methodLink (cn o) i arraycopyName ∈ TB ∧ Cond.native arraycopyName ∈ TB ∧ Cond.static arraycopyName ∈ TB ∧ Cond.initialized "java/lang/System" ∈ TB)
  ∧ (∀ k pc ci, mm_xt P k pc = some ci → xX ci ∧ (∀ x ∈ hs k, ¬ (x.1 ≤ pc + 9 ∧ pc + 9 < x.2.1)) ∧ ∃ (X : String) (T : u_T) (i si ic : Nat) (tx : String) (names : List String), cl[ci]? = some (X, T, 0)
      ∧ decode (kb k) pc = .ok (.new i, 3) ∧ decode (kb k) (pc + 3) = .ok (.dup, 1) ∧ decode (kb k) (pc + 4) = .ok (.ldc si, 2) ∧ decode (kb k) (pc + 6) = .ok (.invokespecial ic, 3) ∧ decode (kb k) (pc + 9) = .ok (.athrow, 1)
      ∧ Cond.classLink (cn (mm_kc P k)) i X ∈ TB ∧ Cond.instantiable X 6 ∈ TB ∧ Cond.initialized X ∈ TB ∧ (cn (mm_kc P k), si, tx) ∈ SB ∧ Bundle.fit X = true ∧ (∀ n ∈ names, Bundle.fit n = true) ∧ names.length = 2
      ∧ ∀ w ∈ Bundle.ownAtoms (cn (mm_kc P k)) ic X names, w ∈ TB ∨ w = .isRef (.static Bundle.tN "UNASSIGNED_STACK" Bundle.steD) ∨ w = .isRef (.static Bundle.tN "SUPPRESSED_SENTINEL" Bundle.listD))
  ∧ (∀ k pc ci, xX ci → (∀ h, mm_kh P k pc ci = some h → h ≠ 999999 → mm_hit (xc k) pc ci (hs k) = some h) ∧ (mm_kh P k pc ci = none → ∀ x ∈ hs k, ¬ (x.1 ≤ pc ∧ pc < x.2.1)))
  ∧ (∀ k ct cj, xc k ct = some cj → ct ≠ 0 ∧ xX cj ∧ ∃ X T, cl[cj]? = some (X, T, 0) ∧ Cond.classLink (cn (mm_kc P k)) ct X ∈ TB)
/-- what holds at the law's start -/
def mm_s0 (TB : List Cond) (SB : List (String × Nat × String)) (cl : List vw_C) (tyl : List FieldType) (D : va_G) (cT : Nat → Nat) (xX : Nat → Prop) (a0 : Array Value) (s0 : State) : Prop :=
  (∀ w ∈ TB, mm_gw w = true ∧ w.before a0 s0 = true) ∧ (∀ q ∈ SB, (Cond.stringRef q.1 q.2.1 q.2.2).before a0 s0 = true)
  ∧ ((Cond.laysStatic Bundle.tN "UNASSIGNED_STACK" Bundle.steD).before a0 s0 = true ∧ (Cond.isRef (.static Bundle.tN "UNASSIGNED_STACK" Bundle.steD)).before a0 s0 = true ∧ (Cond.laysStatic Bundle.tN "SUPPRESSED_SENTINEL" Bundle.listD).before a0 s0 = true ∧ (Cond.isRef (.static Bundle.tN "SUPPRESSED_SENTINEL" Bundle.listD)).before a0 s0 = true)
  ∧ va_K D cl (mm_T cT 0 tyl) s0 ∧ ∀ ci cj, xX ci → xX cj → (s0.vm.assignable (D.1 ci) (D.1 cj) = true ↔ cj = ci)
/-- what holds of a method that is walked -/
def mm_C (P : mm_P) (cn : Nat → String) (kb : Nat → ByteArray) (hs : Nat → List (Nat × Nat × Nat × Nat)) (s0 : State) (z : Nat) (k : Nat) (p : Program) (s : State) (m : MethodId) (meth : Method) (c : Code) : Prop :=
  p.tables.exec = Jvm.exec ∧ c.code = kb k ∧ c.maxLocals = mm_kl P k ∧ meth.sig.returnType = mm_kr P k ∧ meth.locks = false ∧ s.vm.findClass (cn (mm_kc P k)) = some m.cls ∧ (mm_ki P k = true → meth.name = "<init>")
  ∧ c.exceptionTable.toList.map (fun h => (h.startPc, h.endPc, h.handlerPc, h.catchType)) = hs k ∧ mm_B s0 z s
theorem mm_mono {p : Program} {l : Launch} {e : Env} {R : Room} {s : State} {m : MethodId} {args : Array Value} {below : List Frame} {meth : Method} {c : Code} {H : Heap} {locs : List Loc} {cells slots : Nat} {Q Q' : State → Prop} {g : JFrame} (h : ∀ t, Q t → Q' t) (w : W p l e R s m args below meth c H locs cells slots Q g) : W p l e R s m args below meth c H locs cells slots Q' g := fun T hT X => by
  obtain ⟨t, a, b⟩ := w T hT X
  exact ⟨t, a, h t b⟩
/-- what a return leaves -/
theorem mm_ret_end {P : mm_P} {D : va_G} {cl : List vw_C} {cT : Nat → Nat} {b z Ln : Nat} {xs : Nat → Int32} {xX : Nat → Prop} {s : State} {below : List Frame} {gl0 sl0 sl cells slots : Nat} {Q : mm_K} {g : List va_E} {H : Heap} {locs : List Loc} {args : Array Value} {v : Option Value} {t : State} (hR : mm_R D cl cT b z Ln xs s g H locs) (hcnt : mm_cnt P gl0 sl0 cells slots g sl) (hQ : Q (.inl v) g sl)
    (h : MQ below (fun _ _ o t => o = .returned (v.map (mm_v (mm_A b z))) ∧ t.heap = H) args s cells slots (fun q => z ≤ q) t) : mm_end P D cl cT b z Ln xs xX s below gl0 sl0 Q t := by
  obtain ⟨o, h1, h2, ⟨h3, h4⟩, lc, ⟨-, hW, hs⟩, hf⟩ := h
  obtain ⟨r1, r2, r3, r4, r5, r6⟩ := hR
  refine ⟨o, .inl v, g, sl, lc, cells, slots, h1, h2, hW, hs, ?_, hcnt, hQ, h3⟩
  rw [h4]
  exact ⟨r1, r2, ⟨r3.1, r3.2.1, hf⟩, r4, r5, r6⟩
theorem mm_kw_ok {P : mm_P} {ky : Nat → MethodName} {kb : Nat → ByteArray} {hs : Nat → List (Nat × Nat × Nat × Nat)} {TB : List Cond} {k : Nat} {args : Array Value} {s : State} (hts : ∀ w ∈ TB, w.before args s = true) (h : mm_kw P ky kb hs TB k) :
    ∃ mk meth c, s.methodNamed? (ky k) = some mk ∧ s.vm.method? mk = some meth ∧ meth.code = some c ∧ c.code = kb k ∧ c.maxLocals = mm_kl P k ∧ meth.sig.returnType = mm_kr P k ∧ meth.locks = false ∧ c.exceptionTable.toList.map (fun h => (h.startPc, h.endPc, h.handlerPc, h.catchType)) = hs k ∧ parseMethodDescriptor (ky k).desc = some meth.sig := by
  rcases h with ⟨h, h0⟩ | h
  · obtain ⟨mk, hn⟩ := Cond.code_named (hts _ h)
    obtain ⟨meth, c, h1, h2, h3, h4, h5, h6, h7, h8⟩ := Cond.code_spec hn (hts _ h)
    refine ⟨mk, meth, c, hn, h1, h2, h3, h4, h5, h6, ?_, h8⟩
    have : c.exceptionTable.size = 0 := by simpa [Array.isEmpty] using h7
    have : c.exceptionTable.toList = [] := List.eq_nil_of_length_eq_zero (by simpa using this)
    rw [this, h0]; rfl
  · obtain ⟨mk, meth, c, hn, h1, h2, h3, h4, h5, h6, h7, h8⟩ := Cond.codeWith_spec (hts _ h)
    exact ⟨mk, meth, c, hn, h1, h2, h3, h4, h6, h7, h5, h8⟩
end
section
section MmThrow
variable {p : Program} {l : Launch} {e : Env} {R : Room} {s : State} {m : MethodId} {args : Array Value} {below : List Frame} {meth : Method} {c : Code} {H : Heap} {locs : List Loc} {cells slots : Nat} {D : va_G} {cl : List vw_C} {cT : Nat → Nat} {b z Ln : Nat} {xs : Nat → Int32} {P : mm_P} {gl0 sl0 sl : Nat} {xX : Nat → Prop} {g : List va_E}
variable {TB : List Cond} {SB : List (String × Nat × String)} {tyl : List FieldType} {cn : Nat → String} {ky : Nat → MethodName} {kb : Nat → ByteArray} {hs : Nat → List (Nat × Nat × Nat × Nat)} {xc : Nat → Nat → Option Nat} {s0 : State} {a0 : Array Value} {k pc ci : Nat} {L : Array Slot} {st : List Value} {Q : mm_K} {ls : List (Nat × Value)}
theorem mm_statics {s : State} {D : va_G} {cl : List vw_C} {cT : Nat → Nat} {b z Ln : Nat} {xs : Nat → Int32} {g : List va_E} {H : Heap} {locs : List Loc} (r : mm_R D cl cT b z Ln xs s g H locs) (g0 : List va_E) (hs : va_P D cl (mm_W (mm_A b z) cT 0 g0) s.heap) (hz : s.heap.size = z + g0.length) : ∀ x ∈ locs, ∀ cell, s.heap[x.base]? = some cell → cell.vm.isStatics = false := by
  intro x hx cell hc
  have h1 := r.2.2.1.2.2 x hx
  have h2 := (Array.getElem?_eq_some_iff.mp hc).1
  obtain ⟨i, hi⟩ : ∃ i, x.base = z + i := ⟨x.base - z, (Nat.add_sub_cancel' (h1 : z ≤ x.base)).symm⟩
  have hlt : i < g0.length := by
    have h4 : z + i < z + g0.length := by rw [← hi, ← hz]; exact h2
    exact Nat.lt_of_add_lt_add_left h4
  have h3 := hs i _ (by rw [mm_W_get, List.getElem?_eq_getElem hlt]; rfl)
  have hA : mm_A b z (0 + i + 1) = x.base := by rw [hi]; simp [mm_A]
  rw [hA] at h3
  cases he : g0[i] with
  | inl q =>
    obtain ⟨t, a⟩ := q
    rw [he] at h3
    have h3 : s.heap[x.base]? = some (vp_cell (cT t) (mm_a (mm_A b z) a)) := h3
    rw [hc] at h3
    cases h3
    obtain ⟨n, f | f | f | f | f⟩ := a <;> rfl
  | inr q =>
    obtain ⟨cj, fs⟩ := q
    rw [he] at h3
    obtain ⟨rr, -, cell', q1, q2, q3, -⟩ := h3
    have q1 : s.heap[x.base]? = some cell' := q1
    rw [hc] at q1
    cases q1
    rw [q3]; rfl
set_option maxHeartbeats 1000000 in
theorem mm_throw_ok (ok : mm_ok3 P TB SB cl cn ky kb hs xc xX) (h0 : mm_s0 TB SB cl tyl D cT xX a0 s0) (htr : e.platform.stackTraces = false) (C : mm_C P cn kb hs s0 z k p s m meth c) (hR : mm_R D cl cT b z Ln xs s g H locs) (g0 : List va_E) (hg0 : va_P D cl (mm_W (mm_A b z) cT 0 g0) s.heap) (hz0 : s.heap.size = z + g0.length) (hl : lv_has L (mm_kl P k) (mm_L (mm_A b z) ls))
    (hx : mm_xt P k pc = some ci) (hroom : g.length + 1 ≤ mm_CM P ∧ sl + 6 ≤ mm_SM P ∧ mm_cats st ≤ 8) (hQ : Q (.inr (ci, g.length + 1)) (g ++ [.inr (ci, [])]) (sl + 6)) (hcnt : mm_cnt P gl0 sl0 cells slots g sl) (hCM : mm_CM P ≤ R.cells + gl0) (hSM : mm_SM P ≤ R.slots + sl0) (hfr : 8 ≤ R.frames) (hlo : 200 ≤ R.locals) :
    W p l e R s m args below meth c H locs cells slots (mm_end P D cl cT b z Ln xs xX s below gl0 sl0 Q) (F0 m pc L (mm_S (mm_A b z) st)) := by
  obtain ⟨hexec, hb, hml, hrt, hlocks, hown, hname, hhs, B⟩ := C
  obtain ⟨g1, g2, ⟨g3, g4, g5, g6⟩, g7, g8⟩ := h0
  have hts : ∀ w ∈ TB, w.before args s = true := fun w hw => B.word (g1 w hw).1 (g1 w hw).2
  obtain ⟨-, -, -, -, -, okX, -, -⟩ := ok
  obtain ⟨hxX, hnot, X, T, i, si, ic, tx, names, hc, d0, d3, d4, d6, d9, w1, w2, w3, w4, w5, w6, w7, w8⟩ := okX _ _ _ hx
  obtain ⟨c1, c2, c3, c4⟩ := hcnt
  have hKn := (va_K.moved B.1.alike g7).1 ci _ hc
  have hA : mm_A b z (g.length + 1) = H.size := by rw [hR.1]; rfl
  have hown8 : ∀ w ∈ Bundle.ownAtoms (cn (mm_kc P k)) ic X names, w.before args s = true := by
    intro w hw
    rcases w8 w hw with h | h | h
    · exact hts w h
    · rw [h]; exact B.isRefStatic g3 g4
    · rw [h]; exact B.isRefStatic g5 g6
  refine W.newcK hexec hb hown (hts _ w1) (hts _ w2) (hts _ w3) rfl d0 (by omega) (by omega) hKn.2.1 rfl fun H1 kC hkC e1 z1 o1 => ?_
  have hR1 : mm_R D cl cT b z Ln xs s (g ++ [.inr (ci, [])]) H1 locs := hR.push ⟨_, hc, _, e1, rfl, rfl, fun j hj => absurd hj (Nat.not_lt_zero j)⟩ z1 o1
  refine lv_dup hexec hb d3 rfl ?_
  obtain ⟨sa, hsa⟩ := B.string (g2 _ w4)
  refine va_ldcS hexec hb hown hsa d4 ?_
  intro T1 hT1 X1
  have hsz : H.size < H1.size := by omega
  obtain ⟨vm', ce, lc, k1, k2, k3, X2, st2⟩ := mm_made X1 hexec htr hown w5 w6 hown8 (mm_statics hR g0 hg0 hz0) (a := H.size) hKn.2.1 hkC (by rw [hT1]; exact e1) (by have := hR.2.2.1.1; exact this) (msg := .ref sa) rfl (g := F0 m (pc + 3 + 1 + 2) L (.ref sa :: .ref H.size :: .ref H.size :: mm_S (mm_A b z) st)) rfl (by rw [hml]; exact hl.1) rfl (by rw [hb]; exact d6) (by rw [w7]; omega)
    (by rw [w7]; show 2 * 0 + (1 + ((mm_S (mm_A b z) st).map fun v => v.category).sum) + _ ≤ _; rw [mm_cats_S]; omega)
  have hnocov : ∀ x ∈ c.exceptionTable.toList, covers x (pc + 9) = false := by
    intro x hx'
    have hm : (x.startPc, x.endPc, x.handlerPc, x.catchType) ∈ hs k := by rw [← hhs]; exact List.mem_map.mpr ⟨x, hx', rfl⟩
    have := hnot _ hm
    simp only [covers]
    by_cases q1 : x.startPc ≤ pc + 9 <;> by_cases q2 : pc + 9 < x.endPc <;> simp [q1, q2]
    exact this ⟨q1, q2⟩
  obtain ⟨hwalk, hrun, hended, hWU, hsame⟩ := X2.athrowLeaves hexec (g := F0 m (pc + 9) L (.ref H.size :: mm_S (mm_A b z) st)) rfl rfl rfl hnocov rfl (by rw [hb]; exact d9) hlocks
  refine ⟨_, st2 _ hwalk, .threw H.size, .inr (ci, g.length + 1), g ++ [.inr (ci, [])], sl + 6, locs ++ lc, cells + 1, slots + 6, hrun, hended, hWU, hsame, ?_, ⟨by rw [List.length_append]; show cells + 1 + gl0 = g.length + 1; omega, by omega, by rw [List.length_append]; show g.length + 1 ≤ _; omega, by omega⟩, hQ, by show Outcome.threw _ = .threw (mm_A b z (g.length + 1)); rw [hA], hxX, g.length, rfl, by simp⟩
  have hheap : (((T1.setVm vm').setCell H.size ce).setFrames (.throwing H.size :: below)).heap = H1.setIfInBounds H.size ce := by
    show ((T1.setVm vm').setCell H.size ce).heap = _
    simp [State.setCell, hT1]
  rw [hheap]
  have hq : (g ++ [Sum.inr (ci, [])] : List va_E)[g.length]? = some (.inr (ci, [])) := by simp
  obtain ⟨r1, r2, r3, r4, r5, r6⟩ := hR1
  have hD : va_D (fun q => z ≤ q) (mm_W (mm_A b z) cT 0 (g ++ [.inr (ci, [])])) := mm_R.D ⟨r1, r2, r3, r4, r5, r6⟩
  have hp : (mm_W (mm_A b z) cT 0 (g ++ [Sum.inr (ci, [])]))[g.length]? = some (H.size, .inr (ci, [])) := by
    rw [mm_at ⟨r1, r2, r3, r4, r5, r6⟩ hq, hA]; rfl
  have hoq : ∀ x : Nat, x ≠ H.size → (H1.setIfInBounds H.size ce)[x]? = H1[x]? := fun x hx' => Array.getElem?_setIfInBounds_ne (fun q => hx' q.symm)
  have hP2 := r2.set hD hp (e := .inr (ci, [])) (H1 := H1.setIfInBounds H.size ce) ⟨_, hc, ce, by rw [Array.getElem?_setIfInBounds_self_of_lt hsz], k1, k2, fun j hj => absurd hj (Nat.not_lt_zero j)⟩ hoq
  have hset : (mm_W (mm_A b z) cT 0 (g ++ [Sum.inr (ci, [])])).set g.length (H.size, .inr (ci, [])) = mm_W (mm_A b z) cT 0 (g ++ [.inr (ci, [])]) := by
    apply List.ext_getElem?
    intro j
    by_cases hj : g.length = j
    · subst hj
      rw [List.getElem?_set_self (by have := (List.getElem?_eq_some_iff.mp hp).1; exact this), hp]
    · rw [List.getElem?_set_ne hj]
  rw [hset] at hP2
  refine ⟨by rw [Array.size_setIfInBounds]; exact r1, hP2, ⟨by rw [Array.size_setIfInBounds]; exact r3.1, fun q hq1 hq2 => ?_, fun x hx' => ?_⟩, r4, r5, r6⟩
  · rw [hoq q (fun h => hq2 (by show z ≤ q; rw [h, hR.1]; omega))]
    exact r3.2.1 q hq1 hq2
  · rcases List.mem_append.mp hx' with q | q
    · exact r3.2.2 x q
    · show z ≤ x.base
      rw [k3 x q, hR.1]; omega
end MmThrow
end
section
section MmCalls
variable {p : Program} {l : Launch} {e : Env} {R : Room} {s : State} {m : MethodId} {args : Array Value} {below : List Frame} {meth : Method} {c : Code} {H : Heap} {locs : List Loc} {cells slots : Nat} {D : va_G} {cl : List vw_C} {cT : Nat → Nat} {b z Ln : Nat} {xs : Nat → Int32} {P : mm_P} {gl0 sl0 sl : Nat} {xX : Nat → Prop} {g : List va_E}
variable {TB : List Cond} {SB : List (String × Nat × String)} {tyl : List FieldType} {cn : Nat → String} {ky : Nat → MethodName} {kb : Nat → ByteArray} {hs : Nat → List (Nat × Nat × Nat × Nat)} {xc : Nat → Nat → Option Nat} {s0 : State} {a0 : Array Value} {k pc : Nat} {L : Array Slot} {Q : mm_K} {ls : List (Nat × Value)}
/-- what is known of calls: they are sound, in so much room -/
def mm_HC (P : mm_P) (l : Launch) (D : va_G) (cl : List vw_C) (cT : Nat → Nat) (b z Ln : Nat) (xs : Nat → Int32) (xX : Nat → Prop) (cn : Nat → String) (kb : Nat → ByteArray) (hs : Nat → List (Nat × Nat × Nat × Nat)) (s0 : State) (d : Nat) (call : mm_Call) : Prop :=
  ∀ k' as g sl Q', call k' as g sl Q' → ∀ {p : Program} {e : Env} {s : State} {m : MethodId} {args : Array Value} {below : List Frame} {meth : Method} {c : Code} {R : Room} {H : Heap} {L : Array Slot}, e.platform.stackTraces = false → mm_C P cn kb hs s0 z k' p s m meth c → s.heap = H → mm_R D cl cT b z Ln xs s g H [] → lv_has L (mm_kl P k') (mm_L (mm_A b z) (lv_args 0 as)) → g.length ≤ mm_CM P → sl ≤ mm_SM P → mm_CM P ≤ R.cells + g.length → mm_SM P ≤ R.slots + sl → 8 + d ≤ R.frames → 200 + 64 * d ≤ R.locals →
    W p l e R s m args below meth c H [] 0 0 (mm_end P D cl cT b z Ln xs xX s below g.length sl Q') (F0 m 0 L [])
set_option maxHeartbeats 1000000 in
/-- a call that stands: into the method, and on -/
theorem mm_go {d : Nat} {call : mm_Call} (HC : mm_HC P l D cl cT b z Ln xs xX cn kb hs s0 d call) (ok : mm_ok3 P TB SB cl cn ky kb hs xc xX) (h0 : mm_s0 TB SB cl tyl D cT xX a0 s0) (htr : e.platform.stackTraces = false) (C : mm_C P cn kb hs s0 z k p s m meth c) {T : State} (X : Stand p l e R s m args below meth c T locs cells slots) (hR : mm_R D cl cT b z Ln xs s g T.heap locs) (hl : lv_has L (mm_kl P k) (mm_L (mm_A b z) ls))
    (hcnt : mm_cnt P gl0 sl0 cells slots g sl) (hCM : mm_CM P ≤ R.cells + gl0) (hSM : mm_SM P ≤ R.slots + sl0) (hfr : 8 + (d + 1) ≤ R.frames) (hlo : 200 + 64 * (d + 1) ≤ R.locals)
    {k' : Nat} {as r : List Value} {ig : Instr} (hdg : decode c.code pc = .ok (ig, 3)) (hroom : mm_cats r + mm_kl P k' + 11 ≤ 64 ∧ mm_cats as ≤ mm_kl P k') (hkw : mm_kw P ky kb hs TB k') (hpf : plainFor (ky k') = true) (hcn : cn (mm_kc P k') = (ky k').cls) (hki : mm_ki P k' = true → (ky k').name = "<init>")
    {mk : MethodId} (hmk : s.methodNamed? (ky k') = some mk) {nx : Nat → List Value → List va_E → Nat → Prop} (hcall : call k' as g sl (mm_back P k nx Q pc r))
    (kk : ∀ pc' st' g' sl' H' locs' cells' slots', nx pc' st' g' sl' → mm_R D cl cT b z Ln xs s g' H' locs' → mm_cnt P gl0 sl0 cells' slots' g' sl' → W p l e R s m args below meth c H' locs' cells' slots' (mm_end P D cl cT b z Ln xs xX s below gl0 sl0 Q) (F0 m pc' L (mm_S (mm_A b z) st'))) :
    ∃ t, (∀ acts, Steps p.tables e below (doInvoke e (T.setTop (F0 m pc L (mm_S (mm_A b z) r))) acts mk (mm_S (mm_A b z) as).toArray).1 t) ∧ mm_end P D cl cT b z Ln xs xX s below gl0 sl0 Q t := by
  obtain ⟨hexec, hb, hml, hrt, hlocks, hown, hname, hhs, B⟩ := C
  obtain ⟨g1, g2, -, g7, g8⟩ := h0
  have hts : ∀ w ∈ TB, w.before args s = true := fun w hw => B.word (g1 w hw).1 (g1 w hw).2
  obtain ⟨mk', methk, ck, hn, hm, hcode, hbytes, hmaxl, hret, hlk, hhsk, hsig⟩ := mm_kw_ok hts hkw
  cases Option.some.inj (hmk.symm.trans hn)
  have halT : s.vm.Alike T.vm := X.warmed.alike
  have hmkT : T.vm.method? mk = some methk := by rw [halT.method?]; exact hm
  have hnT : T.methodNamed? (ky k') = some mk := X.named hn
  have hpk : T.plainMethod mk := State.plainMethod.of_named hpf hnT hmkT
  obtain ⟨c1, c2, c3, c4⟩ := id hcnt
  obtain ⟨-, -, -, -, -, -, okH, okc⟩ := ok
  obtain ⟨oc, g', sl', T', lc, ce, ss, X', hR', hcnt', hQ', hfin⟩ := mm_enter (P := P) (gl0 := gl0) (sl0 := sl0) (xX := xX) X (g := F0 m pc L (mm_S (mm_A b z) r)) rfl (by rw [hml]; exact hl.1) hdg rfl as hmkT hcode hlk hpk (R' := { frames := R.frames - 1, cells := R.cells - cells, slots := R.slots - slots, locals := R.locals - 64 }) (by show R.frames - 1 + 1 ≤ R.frames; omega)
    (by show ((mm_S (mm_A b z) r).map fun v => v.category).sum + (ck.maxLocals + 11) + (R.locals - 64) ≤ R.locals; rw [mm_cats_S, hmaxl]; omega) (by show cells + (R.cells - cells) ≤ R.cells; omega) (by show slots + (R.slots - slots) ≤ R.slots; omega) hR (by rw [hmaxl]; exact hroom.2) (Q' := mm_back P k nx Q pc r) hcnt (by
      intro L' hl' hRs
      have hheap : (T.calling (F0 m pc L (mm_S (mm_A b z) r)) mk (mm_S (mm_A b z) as).toArray).heap = T.heap := by
        simp [State.calling, State.pushFrame, State.setFrames, State.setTop, State.modifyTopJava]
      have hvm : (T.calling (F0 m pc L (mm_S (mm_A b z) r)) mk (mm_S (mm_A b z) as).toArray).vm = T.vm := by
        simp [State.calling, State.pushFrame, State.setFrames, State.setTop, State.modifyTopJava]
      refine HC _ _ _ _ _ hcall htr ⟨hexec, hbytes, hmaxl, hret, hlk, ?_, fun q => ?_, hhsk, ?_⟩ hheap hRs (by rw [← hmaxl]; exact hl') c3 c4 (by show _ ≤ R.cells - cells + g.length; omega) (by show _ ≤ R.slots - slots + sl; omega) (by show 8 + d ≤ R.frames - 1; omega) (by show 200 + 64 * d ≤ R.locals - 64; omega)
      · rw [hcn, hvm, halT.findClass]; exact findClass_of_methodNamed hn
      · rw [(name_of_methodNamed hn hm).1]; exact hki q
      · refine ⟨by rw [hvm]; exact State.WarmedH.trans B.1 X.warmed, B.2.1, fun q hq => ?_⟩
        rw [hheap, hR.2.2.1.2.1 q (by have := hR.2.2.2.2.2; omega) (by omega)]
        exact B.2.2 q hq)
  cases oc with
  | inl v =>
    have hnx : nx (pc + 3) (v.toList ++ r) g' sl' := hQ'
    obtain ⟨t, hst, hend⟩ := kk _ _ _ _ _ _ _ _ hnx hR' hcnt' T' rfl X'
    refine ⟨t, fun acts => (hfin acts).trans ?_, hend⟩
    have : mm_S (mm_A b z) (v.toList ++ r) = (v.map (mm_v (mm_A b z))).toList ++ mm_S (mm_A b z) r := by cases v <;> simp [mm_S]
    rw [this] at hst
    exact hst
  | inr x =>
    obtain ⟨hx, ⟨q, hq1, hq2⟩, hst⟩ := hfin
    have hQ'' : (match mm_kh P k pc x.1 with
      | some h => h ≠ 999999 ∧ nx h [.ref x.2] g' sl'
      | none => Q (.inr x) g' sl') := hQ'
    cases hkh : mm_kh P k pc x.1 with
    | none =>
      rw [hkh] at hQ''
      have hout : ∀ y ∈ c.exceptionTable.toList, covers y pc = false := by
        intro y hy
        have hmem : (y.startPc, y.endPc, y.handlerPc, y.catchType) ∈ hs k := by rw [← hhs]; exact List.mem_map.mpr ⟨y, hy, rfl⟩
        have := (okH k pc x.1 hx).2 hkh _ hmem
        simp only [covers]
        by_cases q1 : y.startPc ≤ pc <;> by_cases q2 : pc < y.endPc <;> simp [q1, q2]
        exact this ⟨q1, q2⟩
      obtain ⟨hwalk, hrun, hended, hWU, hsame⟩ := X'.leaveThrown (mm_A b z x.2) (g := F0 m pc L (mm_S (mm_A b z) r)) rfl rfl rfl hout hlocks
      exact ⟨_, fun acts => (hst acts).trans hwalk, .threw (mm_A b z x.2), .inr x, g', sl', locs ++ lc, cells + ce, slots + ss, hrun, hended, hWU, hsame, hR', hcnt', hQ'', rfl, hx, q, hq1, hq2⟩
    | some h =>
      rw [hkh] at hQ''
      have hhit := (okH k pc x.1 hx).1 h hkh hQ''.1
      have hK := va_K.moved B.1.alike g7
      obtain ⟨rr, hrr, cell, e1, e2, e3, -⟩ := hR'.2.1 q _ (mm_at hR' hq2)
      rw [← hq1] at e1
      have hpl : e.platform.magicAccessors = ({} : Platform).magicAccessors := by rw [X.admits.platform]
      obtain ⟨vm', X3, st3⟩ := mm_caught X' (a := mm_A b z x.2) (g := F0 m pc L (mm_S (mm_A b z) r)) rfl (cc := xc k) (dC := D.1) (ci := x.1) (pcH := h) e1 e2 (fun k' hk' => by rw [e3] at hk'; cases hk') (by obtain ⟨-, -, kk', hkk, -⟩ := hK.1 x.1 _ hrr; exact ⟨kk', hkk⟩)
        (by
          intro ct cj hct
          obtain ⟨n1, n2, Xn, Tn, n3, n4⟩ := okc _ _ _ hct
          obtain ⟨-, hfc, kk', hkk, -⟩ := hK.1 cj _ n3
          obtain ⟨c', hc', hlk'⟩ := Cond.classLink_spec hown (hts _ n4) e.platform hpl
          cases Option.some.inj (hc'.symm.trans hfc)
          refine ⟨n1, hlk', ⟨kk', hkk⟩, ?_⟩
          rw [B.1.alike.assignable]
          exact g8 _ _ hx n2)
        (by rw [hhs]; exact hhit)
      obtain ⟨t, hst4, hend⟩ := kk _ _ _ _ _ _ _ _ hQ''.2 hR' hcnt' (T'.setVm vm') rfl X3
      exact ⟨t, fun acts => (hst acts).trans (st3 _ hst4), hend⟩
end MmCalls
end
section
section MmSound
variable {l : Launch} {D : va_G} {cl : List vw_C} {cT : Nat → Nat} {b z Ln : Nat} {xs : Nat → Int32} {P : mm_P} {xX : Nat → Prop}
variable {TB : List Cond} {SB : List (String × Nat × String)} {tyl : List FieldType} {cn : Nat → String} {ky : Nat → MethodName} {kb : Nat → ByteArray} {hs : Nat → List (Nat × Nat × Nat × Nat)} {xc : Nat → Nat → Option Nat} {s0 : State} {a0 : Array Value} {k : Nat}
set_option maxHeartbeats 2000000 in
theorem mm_sound_n {d : Nat} {call : mm_Call} (HC : mm_HC P l D cl cT b z Ln xs xX cn kb hs s0 d call) (ok2 : mm_ok2 P TB cl tyl cn) (ok : mm_ok3 P TB SB cl cn ky kb hs xc xX) (h0 : mm_s0 TB SB cl tyl D cT xX a0 s0) {p : Program} {e : Env} {s : State} {m : MethodId} {args : Array Value} {below : List Frame} {meth : Method} {c : Code} {R : Room} {gl0 sl0 : Nat} (htr : e.platform.stackTraces = false) (C : mm_C P cn kb hs s0 z k p s m meth c)
    (g0 : List va_E) (hg0 : va_P D cl (mm_W (mm_A b z) cT 0 g0) s.heap) (hz0 : s.heap.size = z + g0.length) (hgl : g0.length = gl0) (hCM : mm_CM P ≤ R.cells + gl0) (hSM : mm_SM P ≤ R.slots + sl0) (hfr : 8 + (d + 1) ≤ R.frames) (hlo : 200 + 64 * (d + 1) ≤ R.locals) {Q : mm_K} :
    ∀ (n pc : Nat) (ls : List (Nat × Value)) (st : List Value) (g : List va_E) (sl : Nat), mm_w P Ln xs call k n pc ls st g sl Q → ∀ (H : Heap) (L : Array Slot) (locs : List Loc) (cells slots : Nat), mm_R D cl cT b z Ln xs s g H locs → lv_has L (mm_kl P k) (mm_L (mm_A b z) ls) → mm_cnt P gl0 sl0 cells slots g sl →
      W p l e R s m args below meth c H locs cells slots (mm_end P D cl cT b z Ln xs xX s below gl0 sl0 Q) (F0 m pc L (mm_S (mm_A b z) st))
  | 0, _, _, _, _, _, h => by exact absurd h (by simp [mm_w])
  | n + 1, pc, ls, st, g, sl, h => by
    intro H L locs cells slots hR hl hcnt
    have ih := mm_sound_n HC ok2 ok h0 htr C g0 hg0 hz0 hgl hCM hSM hfr hlo (args := args) (below := below) (Q := Q) n
    obtain ⟨hexec, hb, hml, hrt, hlocks, hown, hname, hhs, B⟩ := id C
    have hts : ∀ w ∈ TB, w.before args s = true := fun w hw => B.word (h0.1 w hw).1 (h0.1 w hw).2
    have hK := va_K.moved B.1.alike h0.2.2.2.1
    have kk : ∀ pc' st' g' sl' H' locs' cells' slots', mm_w P Ln xs call k n pc' ls st' g' sl' Q → mm_R D cl cT b z Ln xs s g' H' locs' → mm_cnt P gl0 sl0 cells' slots' g' sl' → W p l e R s m args below meth c H' locs' cells' slots' (mm_end P D cl cT b z Ln xs xX s below gl0 sl0 Q) (F0 m pc' L (mm_S (mm_A b z) st')) := fun pc' st' g' sl' H' locs' cells' slots' hw hr hc => ih pc' ls st' g' sl' hw _ _ _ _ _ hr hl hc
    unfold mm_w at h
    split at h
    · rename_i ci hx
      exact mm_throw_ok ok h0 htr C hR g0 hg0 hz0 hl hx h.1 h.2 hcnt hCM hSM (by omega) (by omega)
    split at h
    · rename_i lo dt ts hsw
      obtain ⟨dflt, offs, len, d1, d2, d3⟩ := ok.2.1 _ _ _ _ _ hsw
      split at h
      · rename_i x r
        by_cases hout : x.toInt < lo ∨ lo + (ts.length : Int) - 1 < x.toInt
        · exact lv_tableOut hexec hb d1 hout d2 (kk _ _ _ _ _ _ _ _ (h.1 hout) hR hcnt)
        · have h1 : ¬ x.toInt < lo := fun q => hout (Or.inl q)
          have h2 : ¬ lo + (ts.length : Int) - 1 < x.toInt := fun q => hout (Or.inr q)
          have hi : (x.toInt - lo).toNat < ts.length := by omega
          obtain ⟨off, o1, o2⟩ := d3 _ _ (List.getElem?_eq_getElem hi)
          exact lv_tableIn hexec hb d1 h1 h2 o1 o2 (kk _ _ _ _ _ _ _ _ (h.2 _ _ (List.getElem?_eq_getElem hi) (by omega)) hR hcnt)
      · exact h.elim
    split at h
    · exact h.elim
    · rename_i ins hlook
      have hdg := ok.1 _ _ (mm_look_mem hlook)
      dsimp only at hdg
      split at h
      · rename_i X hs1
        exact mm_s1_ok hexec hb hs1 h hdg hl (fun pc' ls' st' L' hw hl' => ih pc' ls' st' g sl hw _ _ _ _ _ hR hl' hcnt)
      rename_i hn1
      clear hn1
      split at h
      · rename_i X hs2
        exact mm_s2_ok ok2 hexec hb hts hown hname hK hs2 h hdg hR hcnt hCM hSM kk
      · rename_i hn2
        clear hn2
        have hfree : ∀ q ∈ locs, (fun q => z ≤ q) q.base := hR.2.2.1.2.2
        unfold mm_s3 at h
        split at h
        · split at h
          · rename_i x
            split at h
            · rename_i hk
              exact mm_mono (Q := MQ below (fun _ _ o t => o = .returned ((some (.int x) : Option Value).map (mm_v (mm_A b z))) ∧ t.heap = H) args s cells slots (fun q => z ≤ q)) (fun t => mm_ret_end hR hcnt h) (W.iret (v := x) hexec hb (hrt.trans hk) (fun t ht _ => ⟨rfl, ht⟩) hfree hdg hlocks)
            · rename_i ty _ hk
              exact mm_mono (Q := MQ below (fun _ _ o t => o = .returned ((some (.int x) : Option Value).map (mm_v (mm_A b z))) ∧ t.heap = H) args s cells slots (fun q => z ≤ q)) (fun t => mm_ret_end hR hcnt h.2) (W.zret (v := x) hexec hb (hrt.trans hk) h.1 (fun t ht _ => ⟨rfl, ht⟩) hfree hdg hlocks)
            · exact h.elim
          · exact h.elim
        · split at h
          · rename_i x
            split at h
            · rename_i hk
              exact mm_mono (Q := MQ below (fun _ _ o t => o = .returned ((some (.long x) : Option Value).map (mm_v (mm_A b z))) ∧ t.heap = H) args s cells slots (fun q => z ≤ q)) (fun t => mm_ret_end hR hcnt h) (W.lret (v := x) hexec hb (hrt.trans hk) (fun t ht _ => ⟨rfl, ht⟩) hfree hdg hlocks)
            · exact h.elim
          · exact h.elim
        · split at h
          · rename_i v
            split at h
            · rename_i hv
              have hv' : mm_v (mm_A b z) v = .null ∨ ∃ a, mm_v (mm_A b z) v = .ref a := by
                unfold mm_kind at hv
                split at hv <;> first | (cases hv; done) | (rename_i h1; cases h1; done) | exact Or.inr ⟨_, rfl⟩ | exact Or.inl rfl
              split at h
              · rename_i nn hk
                exact mm_mono (Q := MQ below (fun _ _ o t => o = .returned ((some v : Option Value).map (mm_v (mm_A b z))) ∧ t.heap = H) args s cells slots (fun q => z ≤ q)) (fun t => mm_ret_end hR hcnt h) (W.aret (v := mm_v (mm_A b z) v) hexec hb (hrt.trans hk) (Or.inl ⟨_, rfl⟩) hv' (fun t ht _ => ⟨rfl, ht⟩) hfree hdg hlocks)
              · rename_i nn hk
                exact mm_mono (Q := MQ below (fun _ _ o t => o = .returned ((some v : Option Value).map (mm_v (mm_A b z))) ∧ t.heap = H) args s cells slots (fun q => z ≤ q)) (fun t => mm_ret_end hR hcnt h) (W.aret (v := mm_v (mm_A b z) v) hexec hb (hrt.trans hk) (Or.inr ⟨_, rfl⟩) hv' (fun t ht _ => ⟨rfl, ht⟩) hfree hdg hlocks)
              · exact h.elim
            · exact h.elim
          · exact h.elim
        · split at h
          · split at h
            · rename_i hk
              exact mm_mono (Q := MQ below (fun _ _ o t => o = .returned ((none : Option Value).map (mm_v (mm_A b z))) ∧ t.heap = H) args s cells slots (fun q => z ≤ q)) (fun t => mm_ret_end (v := none) hR hcnt h) (W.vret hexec hb (hrt.trans hk) (fun t ht _ => ⟨rfl, ht⟩) hfree hdg hlocks)
            · exact h.elim
          · exact h.elim
        · split at h
          · rename_i i k' na hml'
            obtain ⟨o1, o2, o3, o4, o5, o6, o7, -, o8, -, -⟩ := ok.2.2.1 _ _ _ _ _ hml' (by decide) (by decide)
            have o2 := o2.resolve_left (by decide)
            obtain ⟨o9, o10⟩ := o8 (Or.inl rfl)
            split at h
            · rename_i as r htk
              split at h
              · rename_i hd
                obtain ⟨bs, hbs, hlen, hst⟩ := mm_take_ok _ _ _ _ _ htk
                rw [List.append_nil] at hbs
                subst hbs
                subst hst
                intro T hT X
                subst hT
                obtain ⟨mk, methk, ck, hn, hm, -, -, -, -, -, -, hsig⟩ := mm_kw_ok hts o1
                obtain ⟨kP, hkP, -⟩ := className_of_methodNamed hn
                have hpar : (mm_S (mm_A b z) as).length = methk.sig.parameters.length := by
                  rw [hsig] at o10
                  have := Option.some.inj o10
                  rw [mm_S, List.length_map, hlen]
                  exact this.symm
                obtain ⟨vm1, X1, st1⟩ := X.invokestatic hexec hown (hts _ o2) hn hm (Cond.static_spec hn hm (hts _ o9)) hkP (Cond.initialized_spec (findClass_of_methodNamed hn) hkP (hts _ o3)) o4 (g := F0 m pc L (mm_S (mm_A b z) (as.reverse ++ r))) rfl (argsL := mm_S (mm_A b z) as) (rest := mm_S (mm_A b z) r) hpar (by simp [mm_S]) (by rw [hb]; exact hdg)
                obtain ⟨t, ht, hend⟩ := mm_go HC ok h0 htr C X1 hR hl hcnt hCM hSM hfr hlo (by rw [hb]; exact hdg) (of_decide_eq_true hd) o1 o5 o6 o7 hn h kk
                exact ⟨t, st1 _ ht, hend⟩
              · exact h.elim
            · exact h.elim
          · rename_i i k' na hml'
            obtain ⟨o1, -, o3, o4, o5, o6, o7, on, o8, -, -⟩ := ok.2.2.1 _ _ _ _ _ hml' (by decide) (by decide)
            obtain ⟨host, o2⟩ := on rfl
            obtain ⟨o9, o10⟩ := o8 (Or.inr rfl)
            split at h
            · rename_i as r htk
              split at h
              · rename_i hd
                obtain ⟨bs, hbs, hlen, hst⟩ := mm_take_ok _ _ _ _ _ htk
                rw [List.append_nil] at hbs
                subst hbs
                subst hst
                intro T hT X
                subst hT
                obtain ⟨mk, methk, ck, hn, hm, -, -, -, -, -, -, hsig⟩ := mm_kw_ok hts o1
                obtain ⟨kP, hkP, -⟩ := className_of_methodNamed hn
                have hpar : (mm_S (mm_A b z) as).length = methk.sig.parameters.length := by
                  rw [hsig] at o10
                  have := Option.some.inj o10
                  rw [mm_S, List.length_map, hlen]
                  exact this.symm
                obtain ⟨vm1, X1, st1⟩ := X.invokestaticNest hexec hown (hts _ o2) hn hm (Cond.static_spec hn hm (hts _ o9)) hkP (Cond.initialized_spec (findClass_of_methodNamed hn) hkP (hts _ o3)) o4 (g := F0 m pc L (mm_S (mm_A b z) (as.reverse ++ r))) rfl (argsL := mm_S (mm_A b z) as) (rest := mm_S (mm_A b z) r) hpar (by simp [mm_S]) (by rw [hb]; exact hdg)
                obtain ⟨t, ht, hend⟩ := mm_go HC ok h0 htr C X1 hR hl hcnt hCM hSM hfr hlo (by rw [hb]; exact hdg) (of_decide_eq_true hd) o1 o5 o6 o7 hn h kk
                exact ⟨t, st1 _ ht, hend⟩
              · exact h.elim
            · exact h.elim
          · rename_i i k' na hml'
            obtain ⟨o1, o2, o3, o4⟩ := ok.2.2.2.2.1 _ _ _ _ hml'
            split at h
            · rename_i n' dp q2 sp q1 r
              split at h
              · rename_i n1 f1 hq1
                split at h
                · rename_i n2 f2 hq2
                  split at h
                  · rename_i hd
                    have hd := of_decide_eq_true hd
                    obtain ⟨⟨x1, x2, x3, x4, x5⟩, x6⟩ := h
                    have hty := mm_ty hK (ok2.2.2.2.2.1 .long _ _ rfl).1
                    have hnat : nativeFrameWords "java/lang/System" "arraycopy" 5 ≤ 100 := by decide +kernel
                    have hloc : ((mm_S (mm_A b z) r).map fun v => v.category).sum + (nativeFrameWords "java/lang/System" "arraycopy" 5 + 11) ≤ R.locals := by
                      rw [mm_cats_S]; omega
                    have hfr1 : 1 ≤ R.frames := by omega
                    refine va_copyl (A := fun q => z ≤ q) (H0 := H) hexec hb (by rw [hml]; exact hl.1.symm) hown (hts _ o1) (hts _ o2) (hts _ o3) (hts _ o4) hK hR.2.1 hR.D ⟨Nat.le_refl _, fun _ _ _ => rfl, hR.2.2.1.2.2⟩ q1 q2 1 1 (mm_at hR hq1) (mm_at hR hq2) hty hty rfl x1 x2 x3 x4 x5 (fun _ _ => rfl) hfr1 hloc hdg fun H1 locs1 hP1 hD1 hS1 => ?_
                    intro T hT X
                    have hup := X.heapSize
                    rw [hT] at hup
                    obtain ⟨c1, c2, c3, c4⟩ := hcnt
                    have hsz : H1.size = H.size := by have := hS1.1; have := hR.1; omega
                    have hS2 : va_S (fun q => z ≤ q) s.heap H1 locs1 := ⟨Nat.le_trans hR.2.2.1.1 hS1.1, fun q hq hn => by rw [hS1.2.1 q (by have := hR.2.2.1.1; omega) hn]; exact hR.2.2.1.2.1 q hq hn, hS1.2.2⟩
                    exact kk _ _ _ _ _ _ _ _ x6 (hR.set (e' := .inl (1, n2, .inr (.inl (va_cpy f1 f2 sp.toNatClampNeg dp.toNatClampNeg n'.toNatClampNeg)))) hP1 hS2 hsz) ⟨by rw [List.length_set]; exact c1, c2, by rw [List.length_set]; exact c3, c4⟩ T hT X
                  · exact h.elim
                · exact h.elim
              · exact h.elim
            · exact h.elim
          · exact h.elim
        · split at h
          · rename_i i k' na hml'
            obtain ⟨o1, o2, o3, o4, o5, o6, o7, -, -, o8, -⟩ := ok.2.2.1 _ _ _ _ _ hml' (by decide) (by decide)
            have o2 := o2.resolve_left (by decide)
            obtain ⟨o9, o10, o11, Tc, Nc, o12⟩ := o8 rfl
            split at h
            · rename_i as r htk
              split at h
              · rename_i hd
                obtain ⟨hd1, hd2⟩ := Bool.and_eq_true _ _ |>.mp hd
                obtain ⟨bs, hbs, hlen, hst⟩ := mm_take_ok _ _ _ _ _ htk
                rw [List.append_nil] at hbs
                subst hbs
                subst hst
                intro T hT X
                subst hT
                obtain ⟨mk, methk, ck, hn, hm, -, -, -, -, -, -, hsig⟩ := mm_kw_ok hts o1
                unfold mm_recv at hd2
                split at hd2
                · rename_i q as'
                  split at hd2
                  · rename_i ci fs hq
                    have hci := of_decide_eq_true hd2
                    subst hci
                    obtain ⟨rr, hrr, cell, e1, e2, e3, -⟩ := hR.2.1 q _ (mm_at hR hq)
                    obtain ⟨mk', methk', hn', hm', hst', hab'⟩ := Cond.instanceMethod_spec (hts _ o9)
                    cases Option.some.inj (hn.symm.trans hn')
                    cases Option.some.inj (hm.symm.trans hm')
                    obtain ⟨c2, r2, m2, q1, q2, q3, q4, kP, hkP, hkPi⟩ := Cond.selects_spec (hts _ o10)
                    have hcls : cell.cls = c2 := by
                      have := (hK.1 _ _ o12).2.1
                      rw [e2]
                      exact Option.some.inj (this.symm.trans q1)
                    cases Option.some.inj ((State.methodFound?_of_named hn o4).symm.trans q2)
                    cases Option.some.inj (hn.symm.trans q3)
                    have hpar : (mm_S (mm_A b z) as').length = methk.sig.parameters.length := by
                      rw [hsig] at o11
                      have := Option.some.inj o11
                      dsimp only at this
                      rw [mm_S, List.length_map]
                      simp at hlen
                      omega
                    obtain ⟨vm1, X1, st1⟩ := X.invokevirtual hexec hown (hts _ o2) hn hm hst' hkP hkPi o4 (a := mm_A b z (q + 1)) (cell := cell) e1 (fun x hx' => by rw [e3] at hx'; cases hx') (by rw [Launch.admits_selectMethod X.admits, hcls]; exact q4) hm hab' hkP hkPi (g := F0 m pc L (mm_S (mm_A b z) ((Value.ref (q + 1) :: as').reverse ++ r))) rfl (argsL := mm_S (mm_A b z) as') (rest := mm_S (mm_A b z) r) hpar (by simp [mm_S, mm_v]) (by rw [hb]; exact hdg)
                    obtain ⟨t, ht, hend⟩ := mm_go HC ok h0 htr C X1 hR hl hcnt hCM hSM hfr hlo (by rw [hb]; exact hdg) (of_decide_eq_true hd1) o1 o5 o6 o7 hn h kk
                    exact ⟨t, st1 _ ht, hend⟩
                  · cases hd2
                · cases hd2
              · exact h.elim
            · exact h.elim
          · exact h.elim
        · split at h
          · rename_i i k' na hml'
            obtain ⟨o1, o2, o3, o4, o5, o6, o7, -, -, -, o8⟩ := ok.2.2.1 _ _ _ _ _ hml' (by decide) (by decide)
            have o2 := o2.resolve_left (by decide)
            obtain ⟨o9, o10, o11, o12, o13⟩ := o8 rfl
            split at h
            · rename_i as r htk
              split at h
              · rename_i hd
                obtain ⟨hd1, hd2⟩ := Bool.and_eq_true _ _ |>.mp hd
                obtain ⟨bs, hbs, hlen, hst⟩ := mm_take_ok _ _ _ _ _ htk
                rw [List.append_nil] at hbs
                subst hbs
                subst hst
                intro T hT X
                subst hT
                unfold mm_isref at hd2
                split at hd2
                · rename_i q as'
                  have hcode := o12
                  have hpar : ∀ sig, parseMethodDescriptor (ky k').desc = some sig → (mm_S (mm_A b z) as').length = sig.parameters.length := by
                    intro sig hsig
                    rw [hsig] at o13
                    have := Option.some.inj o13
                    dsimp only at this
                    rw [mm_S, List.length_map]
                    simp at hlen
                    omega
                  have hpl : e.platform.magicAccessors = ({} : Platform).magicAccessors := by rw [X.admits.platform]
                  obtain ⟨mk, methM, cM, kP, vm1, hn, hm, -, -, -, -, -, -, hW1, st1⟩ := Steps.initColdArgs (e := e) X.here hexec X.warmed hpl hown o10 o4 (hts _ o2) (hts _ o9) (hts _ hcode) (f := F0 m pc L (mm_S (mm_A b z) ((Value.ref q :: as').reverse ++ r))) rfl (a := mm_A b z q) (argsL := mm_S (mm_A b z) as') (rest := mm_S (mm_A b z) r) hpar (by simp [mm_S, mm_v]) (by rw [hb]; exact hdg)
                  have X1 := X.noted hW1
                  obtain ⟨t, ht, hend⟩ := mm_go HC ok h0 htr C X1 hR hl hcnt hCM hSM hfr hlo (by rw [hb]; exact hdg) (of_decide_eq_true hd1) o1 o5 o6 o7 hn h kk
                  exact ⟨t, st1 _ ht, hend⟩
                · cases hd2
              · exact h.elim
            · exact h.elim
          · rename_i i k' na hml'
            obtain ⟨o1, o2, o3⟩ := ok.2.2.2.1 _ _ _ _ hml'
            split at h
            · rename_i q r
              split at h
              · rename_i hd
                have hd := of_decide_eq_true hd
                exact W.objInit hexec hb hown (hts _ o1) (hts _ o2) (hts _ o3) rfl (by rw [hml]; exact hl.1) rfl hdg (by omega) (by show 2 * 0 + ((mm_S (mm_A b z) r).map fun v => v.category).sum + 12 ≤ R.locals; rw [mm_cats_S]; omega) (kk _ _ _ _ _ _ _ _ h hR hcnt)
              · exact h.elim
            · exact h.elim
          · exact h.elim
        · exact h.elim
theorem mm_sound (ok2 : mm_ok2 P TB cl tyl cn) (ok : mm_ok3 P TB SB cl cn ky kb hs xc xX) (h0 : mm_s0 TB SB cl tyl D cT xX a0 s0) : ∀ d, mm_HC P l D cl cT b z Ln xs xX cn kb hs s0 d (mm_call P Ln xs d)
  | 0 => fun _ _ _ _ _ h => False.elim h
  | d + 1 => by
    intro k' as g sl Q' h p e s m args below meth c R H L htr C hH hR hl hg hs' hCM hSM hfr hlo
    obtain ⟨n, hn⟩ := h
    have hP : va_P D cl (mm_W (mm_A b z) cT 0 g) s.heap := by rw [hH]; exact hR.2.1
    have hz : s.heap.size = z + g.length := by rw [hH]; exact hR.1
    exact mm_sound_n (mm_sound ok2 ok h0 d) ok2 ok h0 htr C g hP hz rfl hCM hSM (by omega) (by omega) n 0 _ _ _ _ hn _ _ _ _ _ hR hl ⟨Nat.zero_add _, Nat.zero_add _, hg, hs'⟩
end MmSound
/-- lookups, and the handlers of a method, as functions -/
def mm_fd {α : Type} : List (Nat × α) → Nat → Option α
  | [], _ => none
  | q :: r, i => if q.1 = i then some q.2 else mm_fd r i
theorem mm_fd_mem {α : Type} {i : Nat} {v : α} : ∀ {l : List (Nat × α)}, mm_fd l i = some v → (i, v) ∈ l
  | [], h => by simp [mm_fd] at h
  | q :: r, h => by
    unfold mm_fd at h
    split at h
    · rename_i hq
      cases h
      subst hq
      exact List.mem_cons_self
    · exact List.mem_cons_of_mem _ (mm_fd_mem h)
def mm_khf (hs : Nat → List (Nat × Nat × Nat × Nat)) (xc : Nat → Nat → Option Nat) (k pc ci : Nat) : Option Nat :=
  if (hs k).any (fun x => decide (x.1 ≤ pc ∧ pc < x.2.1)) = true then (match mm_hit (xc k) pc ci (hs k) with | some h => some h | none => some 999999) else none
theorem mm_khf_ok (hs : Nat → List (Nat × Nat × Nat × Nat)) (xc : Nat → Nat → Option Nat) (k pc ci : Nat) : (∀ h, mm_khf hs xc k pc ci = some h → h ≠ 999999 → mm_hit (xc k) pc ci (hs k) = some h) ∧ (mm_khf hs xc k pc ci = none → ∀ x ∈ hs k, ¬ (x.1 ≤ pc ∧ pc < x.2.1)) := by
  unfold mm_khf
  constructor
  · intro h hh hn
    split at hh
    · split at hh
      · rename_i h' hq; cases hh; exact hq
      · cases hh; exact absurd rfl hn
    · cases hh
  · intro hh x hx hc
    split at hh
    · split at hh <;> cases hh
    · rename_i hany
      exact hany (List.any_eq_true.mpr ⟨x, hx, decide_eq_true hc⟩)
end
section
/-! CHECKS of table rows that the kernel can decide, and what they give. -/
def mm_swc (bs : ByteArray) (pc : Nat) (v : Int × Nat × List Nat) : Bool := match decode bs pc with
  | .ok (.tableswitch dflt lo hi offs, _) => decide (lo = v.1 ∧ hi = v.1 + (v.2.2.length : Int) - 1 ∧ (pc : Int) + dflt = (v.2.1 : Int) ∧ offs.toList.map (fun o => (pc : Int) + o) = v.2.2.map (fun t : Nat => (t : Int)))
  | _ => false
theorem mm_swc_ok {bs : ByteArray} {pc : Nat} {lo : Int} {dt : Nat} {ts : List Nat} (h : mm_swc bs pc (lo, dt, ts) = true) : ∃ (dflt : Int) (offs : Array Int) (len : Nat), decode bs pc = .ok (.tableswitch dflt lo (lo + (ts.length : Int) - 1) offs, len) ∧ (pc : Int) + dflt = (dt : Int) ∧ ∀ i t : Nat, ts[i]? = some t → ∃ off, offs[i]? = some off ∧ (pc : Int) + off = (t : Int) := by
  unfold mm_swc at h
  split at h
  · rename_i dflt lo' hi offs len hd
    obtain ⟨h1, h2, h3, h4⟩ := of_decide_eq_true h
    dsimp only at h1 h2 h3 h4
    subst h1
    subst h2
    refine ⟨dflt, offs, len, hd, h3, fun i t ht => ?_⟩
    have h5 : (offs.toList.map (fun o => (pc : Int) + o))[i]? = some (t : Int) := by rw [h4, List.getElem?_map, ht]; rfl
    rw [List.getElem?_map] at h5
    obtain ⟨off, o1, o2⟩ := Option.map_eq_some_iff.mp h5
    exact ⟨off, by rw [← Array.getElem?_toList]; exact o1, o2⟩
  · cases h
/-- two keys -/
def mm_fd2 {α : Type} (l : List (List (Nat × α))) (o i : Nat) : Option α := match l[o]? with
  | some r => mm_fd r i
  | none => none
theorem mm_fd2_mem {α : Type} {l : List (List (Nat × α))} {o i : Nat} {v : α} (h : mm_fd2 l o i = some v) : ∃ r, l[o]? = some r ∧ (i, v) ∈ r := by
  unfold mm_fd2 at h
  split at h
  · rename_i r hr
    exact ⟨r, hr, mm_fd_mem h⟩
  · cases h
/-- all rows of a table by two keys pass a check -/
def mm_all2 {α : Type} (c : Nat → Nat → α → Bool) : Nat → List (List (Nat × α)) → Bool
  | _, [] => true
  | o, r :: l => r.all (fun q => c o q.1 q.2) && mm_all2 c (o + 1) l
theorem mm_all2_ok {α : Type} {c : Nat → Nat → α → Bool} : ∀ {l : List (List (Nat × α))} {n : Nat}, mm_all2 c n l = true → ∀ {o i : Nat} {v : α}, mm_fd2 l o i = some v → c (n + o) i v = true
  | [], n, _, o, i, v, hv => by simp [mm_fd2] at hv
  | r :: l, n, h, o, i, v, hv => by
    simp only [mm_all2, Bool.and_eq_true] at h
    obtain ⟨r', hr, hm⟩ := mm_fd2_mem hv
    cases o with
    | zero =>
      cases hr
      have := List.all_eq_true.mp h.1 _ hm
      simpa using this
    | succ o =>
      have hv' : mm_fd2 l o i = some v := by
        unfold mm_fd2 at hv ⊢
        rw [List.getElem?_cons_succ] at hv
        exact hv
      have := mm_all2_ok h.2 hv'
      rw [show n + (o + 1) = n + 1 + o by omega]
      exact this
theorem mm_nth {TB : List Cond} {p : Nat} {w : Cond} (h : decide (TB[p]? = some w) = true) : w ∈ TB := List.mem_of_getElem? (of_decide_eq_true h)
/-- a field's row: (class, place, the word's number) -/
def mm_flc (TB : List Cond) (cl : List vw_C) (cn : Nat → String) (o i : Nat) (v : Nat × Nat × Nat) : Bool := match cl[v.1]? with
  | some (_, T, N) => decide (v.2.1 < N) && decide (TB[v.2.2]? = some (Cond.fieldLink (cn o) i (T v.2.1).1 (T v.2.1).2.1 (T v.2.1).2.2.1))
  | none => false
/-- a row of 'new': (class, defaults, the words' numbers) -/
def mm_nlc (TB : List Cond) (cl : List vw_C) (cn : Nat → String) (ft : Nat → Nat → FieldType × Bool) (o i : Nat) (v : (Nat × List Value) × Nat × Nat × Nat) : Bool := match cl[v.1.1]? with
  | some (C, _, N) => decide (TB[v.2.1]? = some (Cond.classLink (cn o) i C)) && decide (TB[v.2.2.1]? = some (Cond.instantiable C N)) && decide (TB[v.2.2.2]? = some (Cond.initialized C)) && decide (v.1.2.length = N) && v.1.2.all (fun x => match x with | .ref _ => false | _ => true) && (List.range N).all (fun j => decide (defaultValue (ft v.1.1 j).1 = vp_V v.1.2 j))
  | none => false
def mm_alc (TB : List Cond) (tyl : List FieldType) (cn : Nat → String) (o i : Nat) (v : Nat × Nat × Nat) : Bool := match tyl[v.1]? with
  | some (.object C) => decide (TB[v.2.1]? = some (Cond.classLink (cn o) i C)) && decide (TB[v.2.2]? = some (Cond.arrayOver (.object C)))
  | some (.array y) => decide (TB[v.2.1]? = some (Cond.classLink (cn o) i (FieldType.array y).toString)) && decide (TB[v.2.2]? = some (Cond.arrayOver (.array y)))
  | _ => false
theorem mm_flc_ok {TB : List Cond} {cl : List vw_C} {cn : Nat → String} {o i : Nat} {v : Nat × Nat × Nat} (h : mm_flc TB cl cn o i v = true) : ∃ C T N, cl[v.1]? = some (C, T, N) ∧ v.2.1 < N ∧ Cond.fieldLink (cn o) i (T v.2.1).1 (T v.2.1).2.1 (T v.2.1).2.2.1 ∈ TB := by
  unfold mm_flc at h
  split at h
  · rename_i C T N hc
    simp only [Bool.and_eq_true] at h
    exact ⟨C, T, N, hc, of_decide_eq_true h.1, mm_nth h.2⟩
  · cases h
theorem mm_nlc_ok {TB : List Cond} {cl : List vw_C} {cn : Nat → String} {ft : Nat → Nat → FieldType × Bool} {o i : Nat} {v : (Nat × List Value) × Nat × Nat × Nat} (h : mm_nlc TB cl cn ft o i v = true) : ∃ C T N, cl[v.1.1]? = some (C, T, N) ∧ Cond.classLink (cn o) i C ∈ TB ∧ Cond.instantiable C N ∈ TB ∧ Cond.initialized C ∈ TB ∧ v.1.2.length = N ∧ (∀ x ∈ v.1.2, ∀ q, x ≠ .ref q) ∧ ∀ j, j < N → defaultValue (ft v.1.1 j).1 = vp_V v.1.2 j := by
  unfold mm_nlc at h
  split at h
  · rename_i C T N hc
    simp only [Bool.and_eq_true] at h
    obtain ⟨⟨⟨⟨⟨h1, h2⟩, h3⟩, h4⟩, h5⟩, h6⟩ := h
    refine ⟨C, T, N, hc, mm_nth h1, mm_nth h2, mm_nth h3, of_decide_eq_true h4, fun x hx q hq => ?_, fun j hj => of_decide_eq_true (List.all_eq_true.mp h6 j (List.mem_range.mpr hj))⟩
    have := List.all_eq_true.mp h5 x hx
    rw [hq] at this
    cases this
  · cases h
theorem mm_alc_ok {TB : List Cond} {tyl : List FieldType} {cn : Nat → String} {o i : Nat} {v : Nat × Nat × Nat} (h : mm_alc TB tyl cn o i v = true) : (∃ C, tyl[v.1]? = some (.object C) ∧ Cond.classLink (cn o) i C ∈ TB ∧ Cond.arrayOver (.object C) ∈ TB) ∨ (∃ y, tyl[v.1]? = some (.array y) ∧ Cond.classLink (cn o) i (FieldType.array y).toString ∈ TB ∧ Cond.arrayOver (.array y) ∈ TB) := by
  unfold mm_alc at h
  split at h
  · rename_i C hc
    simp only [Bool.and_eq_true] at h
    exact Or.inl ⟨C, hc, mm_nth h.1, mm_nth h.2⟩
  · rename_i y hc
    simp only [Bool.and_eq_true] at h
    exact Or.inr ⟨y, hc, mm_nth h.1, mm_nth h.2⟩
  · cases h
/-- a call's row: ((method, values, kind), numbers of words: link, initialized, static or instance, selects, code) -/
def mm_mlc (TB : List Cond) (cl : List vw_C) (cn : Nat → String) (ky : Nat → MethodName) (kb : Nat → ByteArray) (kl : Nat → Nat) (kr : Nat → Option FieldType) (ki : Nat → Bool) (kc : Nat → Nat) (hs : Nat → List (Nat × Nat × Nat × Nat)) (o i : Nat) (v : (Nat × Nat × Nat) × Nat × Nat × Nat × Nat × Nat) : Bool :=
  match v with
  | ((k', na, kd), p, pi, pa, pb, pcd) =>
    match kd with
    | 3 => decide (TB[p]? = some (Cond.methodLink (cn o) i Lib.objectInit)) && decide (TB[pa]? = some (Cond.instanceMethod Lib.objectInit)) && decide (TB[pcd]? = some (Cond.code Lib.objectInit ⟨#[0xb1]⟩ 1 none))
    | 4 => decide (TB[p]? = some (Cond.methodLink (cn o) i arraycopyName)) && decide (TB[pi]? = some (Cond.initialized "java/lang/System")) && decide (TB[pa]? = some (Cond.static arraycopyName)) && decide (TB[pb]? = some (Cond.native arraycopyName))
    | kd => (decide (TB[pcd]? = some (Cond.code (ky k') (kb k') (kl k') (kr k')) ∧ hs k' = []) || decide (TB[pcd]? = some (Cond.codeWith (ky k') (kb k') (kl k') (kr k') (hs k')))) && decide (TB[pi]? = some (Cond.initialized (ky k').cls)) && decide ((ky k').cls ≠ "java/lang/invoke/MethodHandle" ∧ (ky k').cls ≠ "java/lang/invoke/VarHandle") && plainFor (ky k') && decide (cn (kc k') = (ky k').cls) && decide (ki k' = true → (ky k').name = "<init>")
      && (match kd with
        | 0 => decide (TB[p]? = some (Cond.methodLink (cn o) i (ky k'))) && decide (TB[pa]? = some (Cond.static (ky k'))) && decide ((parseMethodDescriptor (ky k').desc).map (fun d => d.parameters.length) = some na)
        | 5 => (match TB[p]? with | some (.methodLinkNest a j x _) => decide (a = cn o ∧ j = i ∧ x = ky k') | _ => false) && decide (TB[pa]? = some (Cond.static (ky k'))) && decide ((parseMethodDescriptor (ky k').desc).map (fun d => d.parameters.length) = some na)
        | 1 => decide (TB[p]? = some (Cond.methodLink (cn o) i (ky k'))) && decide (TB[pa]? = some (Cond.instanceMethod (ky k'))) && decide (TB[pb]? = some (Cond.selects (ky k').cls (ky k') (ky k'))) && decide ((parseMethodDescriptor (ky k').desc).map (fun d => d.parameters.length + 1) = some na) && (match cl[kc k']? with | some (C, _, _) => decide (C = (ky k').cls) | none => false)
        | 2 => decide (TB[p]? = some (Cond.methodLink (cn o) i (ky k'))) && decide (TB[pa]? = some (Cond.instanceMethod (ky k'))) && decide ((ky k').name = "<init>") && decide (kr k' = none) && decide (TB[pcd]? = some (Cond.code (ky k') (kb k') (kl k') none)) && decide ((parseMethodDescriptor (ky k').desc).map (fun d => d.parameters.length + 1) = some na)
        | _ => false)
theorem mm_mlc_3 {TB : List Cond} {cl : List vw_C} {cn : Nat → String} {ky : Nat → MethodName} {kb : Nat → ByteArray} {kl : Nat → Nat} {kr : Nat → Option FieldType} {ki : Nat → Bool} {kc : Nat → Nat} {hs : Nat → List (Nat × Nat × Nat × Nat)} {o i k' na : Nat} {w : Nat × Nat × Nat × Nat × Nat} (h : mm_mlc TB cl cn ky kb kl kr ki kc hs o i ((k', na, 3), w) = true) : Cond.methodLink (cn o) i Lib.objectInit ∈ TB ∧ Cond.instanceMethod Lib.objectInit ∈ TB ∧ Cond.code Lib.objectInit ⟨#[0xb1]⟩ 1 none ∈ TB := by
  obtain ⟨p, pi, pa, pb, pcd⟩ := w
  simp only [mm_mlc, Bool.and_eq_true] at h
  exact ⟨mm_nth h.1.1, mm_nth h.1.2, mm_nth h.2⟩
theorem mm_mlc_4 {TB : List Cond} {cl : List vw_C} {cn : Nat → String} {ky : Nat → MethodName} {kb : Nat → ByteArray} {kl : Nat → Nat} {kr : Nat → Option FieldType} {ki : Nat → Bool} {kc : Nat → Nat} {hs : Nat → List (Nat × Nat × Nat × Nat)} {o i k' na : Nat} {w : Nat × Nat × Nat × Nat × Nat} (h : mm_mlc TB cl cn ky kb kl kr ki kc hs o i ((k', na, 4), w) = true) : Cond.methodLink (cn o) i arraycopyName ∈ TB ∧ Cond.native arraycopyName ∈ TB ∧ Cond.static arraycopyName ∈ TB ∧ Cond.initialized "java/lang/System" ∈ TB := by
  obtain ⟨p, pi, pa, pb, pcd⟩ := w
  simp only [mm_mlc, Bool.and_eq_true] at h
  exact ⟨mm_nth h.1.1.1, mm_nth h.2, mm_nth h.1.2, mm_nth h.1.1.2⟩
theorem mm_mlc_ok {TB : List Cond} {cl : List vw_C} {cn : Nat → String} {ky : Nat → MethodName} {kb : Nat → ByteArray} {P : mm_P} {hs : Nat → List (Nat × Nat × Nat × Nat)} {o i k' na kd : Nat} {w : Nat × Nat × Nat × Nat × Nat} (h : mm_mlc TB cl cn ky kb (mm_kl P) (mm_kr P) (mm_ki P) (mm_kc P) hs o i ((k', na, kd), w) = true) (h3 : kd ≠ 3) (h4 : kd ≠ 4) :
    mm_kw P ky kb hs TB k' ∧ (kd = 5 ∨ Cond.methodLink (cn o) i (ky k') ∈ TB) ∧ Cond.initialized (ky k').cls ∈ TB ∧ ((ky k').cls ≠ "java/lang/invoke/MethodHandle" ∧ (ky k').cls ≠ "java/lang/invoke/VarHandle") ∧ plainFor (ky k') = true ∧ cn (mm_kc P k') = (ky k').cls ∧ (mm_ki P k' = true → (ky k').name = "<init>")
      ∧ (kd = 5 → ∃ host, Cond.methodLinkNest (cn o) i (ky k') host ∈ TB)
      ∧ (kd = 0 ∨ kd = 5 → Cond.static (ky k') ∈ TB ∧ (parseMethodDescriptor (ky k').desc).map (fun d => d.parameters.length) = some na)
      ∧ (kd = 1 → Cond.instanceMethod (ky k') ∈ TB ∧ Cond.selects (ky k').cls (ky k') (ky k') ∈ TB ∧ (parseMethodDescriptor (ky k').desc).map (fun d => d.parameters.length + 1) = some na ∧ ∃ T N, cl[mm_kc P k']? = some ((ky k').cls, T, N))
      ∧ (kd = 2 → Cond.instanceMethod (ky k') ∈ TB ∧ (ky k').name = "<init>" ∧ mm_kr P k' = none ∧ Cond.code (ky k') (kb k') (mm_kl P k') none ∈ TB ∧ (parseMethodDescriptor (ky k').desc).map (fun d => d.parameters.length + 1) = some na) := by
  obtain ⟨p, pi, pa, pb, pcd⟩ := w
  unfold mm_mlc at h
  dsimp only at h
  split at h
  · exact absurd rfl h3
  · exact absurd rfl h4
  · simp only [Bool.and_eq_true] at h
    obtain ⟨⟨⟨⟨⟨⟨q1, q2⟩, q3⟩, q4⟩, q5⟩, q6⟩, q7⟩ := h
    have k1 : mm_kw P ky kb hs TB k' := by
      rcases Bool.or_eq_true _ _ |>.mp q1 with r | r
      · have r := of_decide_eq_true r
        exact Or.inl ⟨List.mem_of_getElem? r.1, r.2⟩
      · exact Or.inr (mm_nth r)
    have base : ∀ {A B C D E : Prop}, A → B → C → D → E → mm_kw P ky kb hs TB k' ∧ A ∧ Cond.initialized (ky k').cls ∈ TB ∧ ((ky k').cls ≠ "java/lang/invoke/MethodHandle" ∧ (ky k').cls ≠ "java/lang/invoke/VarHandle") ∧ plainFor (ky k') = true ∧ cn (mm_kc P k') = (ky k').cls ∧ (mm_ki P k' = true → (ky k').name = "<init>") ∧ B ∧ C ∧ D ∧ E :=
      fun a b c d e => ⟨k1, a, mm_nth q2, of_decide_eq_true q3, q4, of_decide_eq_true q5, of_decide_eq_true q6, b, c, d, e⟩
    split at q7
    · simp only [Bool.and_eq_true] at q7
      exact base (Or.inr (mm_nth q7.1.1)) (fun q => by omega) (fun _ => ⟨mm_nth q7.1.2, of_decide_eq_true q7.2⟩) (fun q => by omega) (fun q => by omega)
    · simp only [Bool.and_eq_true] at q7
      refine base (Or.inl rfl) (fun _ => ?_) (fun _ => ⟨mm_nth q7.1.2, of_decide_eq_true q7.2⟩) (fun q => by omega) (fun q => by omega)
      have q8 := q7.1.1
      split at q8
      · rename_i a j x host hp
        obtain ⟨r1, r2, r3⟩ := of_decide_eq_true q8
        subst r1; subst r2; subst r3
        exact ⟨host, List.mem_of_getElem? hp⟩
      · cases q8
    · simp only [Bool.and_eq_true] at q7
      obtain ⟨⟨⟨⟨r1, r2⟩, r3⟩, r4⟩, r5⟩ := q7
      refine base (Or.inr (mm_nth r1)) (fun q => by omega) (fun q => by omega) (fun _ => ⟨mm_nth r2, mm_nth r3, of_decide_eq_true r4, ?_⟩) (fun q => by omega)
      split at r5
      · rename_i C T N hc
        exact ⟨T, N, by rw [hc, of_decide_eq_true r5]⟩
      · cases r5
    · simp only [Bool.and_eq_true] at q7
      obtain ⟨⟨⟨⟨⟨r1, r2⟩, r3⟩, r4⟩, r5⟩, r6⟩ := q7
      exact base (Or.inr (mm_nth r1)) (fun q => by omega) (fun q => by omega) (fun q => by omega) (fun _ => ⟨mm_nth r2, of_decide_eq_true r3, of_decide_eq_true r4, mm_nth r5, of_decide_eq_true r6⟩)
    · cases q7
/-- a throw's row -/
def mm_xtc (TB : List Cond) (SB : List (String × Nat × String)) (cl : List vw_C) (cn : Nat → String) (kb : Nat → ByteArray) (kc : Nat → Nat) (hs : Nat → List (Nat × Nat × Nat × Nat)) (names : List String) (k pc : Nat) (v : Nat × (Nat × Nat × Nat × String) × Nat × Nat × Nat) : Bool := match v with
  | (ci, (i, si, ic, tx), p1, p2, p3) => match cl[ci]? with
    | some (X, _, 0) => decide (ci = 13 ∨ ci = 14) && (hs k).all (fun x => decide (¬ (x.1 ≤ pc + 9 ∧ pc + 9 < x.2.1))) && decide (decode (kb k) pc = .ok (.new i, 3)) && decide (decode (kb k) (pc + 3) = .ok (.dup, 1)) && decide (decode (kb k) (pc + 4) = .ok (.ldc si, 2)) && decide (decode (kb k) (pc + 6) = .ok (.invokespecial ic, 3)) && decide (decode (kb k) (pc + 9) = .ok (.athrow, 1))
      && decide (TB[p1]? = some (Cond.classLink (cn (kc k)) i X)) && decide (TB[p2]? = some (Cond.instantiable X 6)) && decide (TB[p3]? = some (Cond.initialized X)) && decide ((cn (kc k), si, tx) ∈ SB) && Bundle.fit X
    | _ => false
end
section
-- ===== PART A: goes FIRST, ahead of the names: the tables' words, and 'selects' of the private methods out of them =====
/-- a private method of a class that the tables say can be made, by its rows of tables_1 -/
def lw_okq (q : MethodName × Nat) : Prop := (q.1.cls ≠ "java/lang/invoke/MethodHandle" ∧ q.1.cls ≠ "java/lang/invoke/VarHandle") ∧ Cond.instantiable q.1.cls q.2 ∈ tables_1 ∧ Cond.privateMethod q.1 ∈ tables_1 ∧ Cond.instanceMethod q.1 ∈ tables_1
theorem lw_p0 : lw_okq (⟨"IndexedCompiler", "treeFor", "(I)LIndexedCompiler$Tree;"⟩, 12) := ⟨⟨by decide +kernel, by decide +kernel⟩, List.mem_of_getElem? (i := 28) (by decide +kernel), List.mem_of_getElem? (i := 412) (by decide +kernel), List.mem_of_getElem? (i := 413) (by decide +kernel)⟩
theorem lw_p1 : lw_okq (⟨"IndexedCompiler$Line", "sign", "(I)C"⟩, 10) := ⟨⟨by decide +kernel, by decide +kernel⟩, List.mem_of_getElem? (i := 36) (by decide +kernel), List.mem_of_getElem? (i := 498) (by decide +kernel), List.mem_of_getElem? (i := 499) (by decide +kernel)⟩
theorem lw_p2 : lw_okq (⟨"IndexedCompiler$Line", "takeWord", "(I)I"⟩, 10) := ⟨⟨by decide +kernel, by decide +kernel⟩, List.mem_of_getElem? (i := 36) (by decide +kernel), List.mem_of_getElem? (i := 505) (by decide +kernel), List.mem_of_getElem? (i := 506) (by decide +kernel)⟩
theorem lw_p3 : lw_okq (⟨"IndexedCompiler$Line", "note", "(III)V"⟩, 10) := ⟨⟨by decide +kernel, by decide +kernel⟩, List.mem_of_getElem? (i := 36) (by decide +kernel), List.mem_of_getElem? (i := 514) (by decide +kernel), List.mem_of_getElem? (i := 515) (by decide +kernel)⟩
theorem lw_p4 : lw_okq (⟨"IndexedCompiler$Line", "takeNumber", "(I)I"⟩, 10) := ⟨⟨by decide +kernel, by decide +kernel⟩, List.mem_of_getElem? (i := 36) (by decide +kernel), List.mem_of_getElem? (i := 521) (by decide +kernel), List.mem_of_getElem? (i := 522) (by decide +kernel)⟩
theorem lw_p5 : lw_okq (⟨"IndexedCompiler$Line", "takeMark", "(I)I"⟩, 10) := ⟨⟨by decide +kernel, by decide +kernel⟩, List.mem_of_getElem? (i := 36) (by decide +kernel), List.mem_of_getElem? (i := 525) (by decide +kernel), List.mem_of_getElem? (i := 526) (by decide +kernel)⟩
theorem lw_p6 : lw_okq (⟨"IndexedCompiler$Reader", "takeWord", "(I)V"⟩, 3) := ⟨⟨by decide +kernel, by decide +kernel⟩, List.mem_of_getElem? (i := 79) (by decide +kernel), List.mem_of_getElem? (i := 616) (by decide +kernel), List.mem_of_getElem? (i := 617) (by decide +kernel)⟩
theorem lw_p7 : lw_okq (⟨"IndexedCompiler$Reader", "refuse", "()V"⟩, 3) := ⟨⟨by decide +kernel, by decide +kernel⟩, List.mem_of_getElem? (i := 79) (by decide +kernel), List.mem_of_getElem? (i := 624) (by decide +kernel), List.mem_of_getElem? (i := 625) (by decide +kernel)⟩
theorem lw_p8 : lw_okq (⟨"java/lang/Throwable", "fillInStackTrace", "(I)Ljava/lang/Throwable;"⟩, 6) := ⟨⟨by decide +kernel, by decide +kernel⟩, List.mem_of_getElem? (i := 664) (by decide +kernel), List.mem_of_getElem? (i := 662) (by decide +kernel), List.mem_of_getElem? (i := 663) (by decide +kernel)⟩
theorem lw_p9 : lw_okq (⟨"IndexedCompiler$Reader", "takeName", "()I"⟩, 3) := ⟨⟨by decide +kernel, by decide +kernel⟩, List.mem_of_getElem? (i := 79) (by decide +kernel), List.mem_of_getElem? (i := 695) (by decide +kernel), List.mem_of_getElem? (i := 696) (by decide +kernel)⟩
theorem lw_p10 : lw_okq (⟨"IndexedCompiler$Reader", "readIndexNames", "()V"⟩, 3) := ⟨⟨by decide +kernel, by decide +kernel⟩, List.mem_of_getElem? (i := 79) (by decide +kernel), List.mem_of_getElem? (i := 703) (by decide +kernel), List.mem_of_getElem? (i := 704) (by decide +kernel)⟩
theorem lw_p11 : lw_okq (⟨"IndexedCompiler$Reader", "takeMark", "(I)V"⟩, 3) := ⟨⟨by decide +kernel, by decide +kernel⟩, List.mem_of_getElem? (i := 79) (by decide +kernel), List.mem_of_getElem? (i := 707) (by decide +kernel), List.mem_of_getElem? (i := 708) (by decide +kernel)⟩
theorem lw_p12 : lw_okq (⟨"IndexedCompiler$Reader", "readNamed", "()I"⟩, 3) := ⟨⟨by decide +kernel, by decide +kernel⟩, List.mem_of_getElem? (i := 79) (by decide +kernel), List.mem_of_getElem? (i := 711) (by decide +kernel), List.mem_of_getElem? (i := 712) (by decide +kernel)⟩
theorem lw_p13 : lw_okq (⟨"IndexedCompiler$Reader", "follow", "(II)I"⟩, 3) := ⟨⟨by decide +kernel, by decide +kernel⟩, List.mem_of_getElem? (i := 79) (by decide +kernel), List.mem_of_getElem? (i := 724) (by decide +kernel), List.mem_of_getElem? (i := 725) (by decide +kernel)⟩
theorem lw_p14 : lw_okq (⟨"IndexedCompiler$Reader", "readProps", "()I"⟩, 3) := ⟨⟨by decide +kernel, by decide +kernel⟩, List.mem_of_getElem? (i := 79) (by decide +kernel), List.mem_of_getElem? (i := 728) (by decide +kernel), List.mem_of_getElem? (i := 729) (by decide +kernel)⟩
theorem lw_p15 : lw_okq (⟨"IndexedCompiler$Reader", "readIndex", "()I"⟩, 3) := ⟨⟨by decide +kernel, by decide +kernel⟩, List.mem_of_getElem? (i := 79) (by decide +kernel), List.mem_of_getElem? (i := 732) (by decide +kernel), List.mem_of_getElem? (i := 733) (by decide +kernel)⟩
def lw_privs_1 : List (MethodName × Nat) := [(⟨"IndexedCompiler", "treeFor", "(I)LIndexedCompiler$Tree;"⟩, 12), (⟨"IndexedCompiler$Line", "sign", "(I)C"⟩, 10), (⟨"IndexedCompiler$Line", "takeWord", "(I)I"⟩, 10), (⟨"IndexedCompiler$Line", "note", "(III)V"⟩, 10), (⟨"IndexedCompiler$Line", "takeNumber", "(I)I"⟩, 10), (⟨"IndexedCompiler$Line", "takeMark", "(I)I"⟩, 10), (⟨"IndexedCompiler$Reader", "takeWord", "(I)V"⟩, 3), (⟨"IndexedCompiler$Reader", "refuse", "()V"⟩, 3), (⟨"java/lang/Throwable", "fillInStackTrace", "(I)Ljava/lang/Throwable;"⟩, 6), (⟨"IndexedCompiler$Reader", "takeName", "()I"⟩, 3), (⟨"IndexedCompiler$Reader", "readIndexNames", "()V"⟩, 3), (⟨"IndexedCompiler$Reader", "takeMark", "(I)V"⟩, 3), (⟨"IndexedCompiler$Reader", "readNamed", "()I"⟩, 3), (⟨"IndexedCompiler$Reader", "follow", "(II)I"⟩, 3), (⟨"IndexedCompiler$Reader", "readProps", "()I"⟩, 3), (⟨"IndexedCompiler$Reader", "readIndex", "()I"⟩, 3)]
theorem lw_r1 : ∀ q ∈ lw_privs_1, lw_okq q := List.forall_mem_cons.mpr ⟨lw_p0, List.forall_mem_cons.mpr ⟨lw_p1, List.forall_mem_cons.mpr ⟨lw_p2, List.forall_mem_cons.mpr ⟨lw_p3, List.forall_mem_cons.mpr ⟨lw_p4, List.forall_mem_cons.mpr ⟨lw_p5, List.forall_mem_cons.mpr ⟨lw_p6, List.forall_mem_cons.mpr ⟨lw_p7, List.forall_mem_cons.mpr ⟨lw_p8, List.forall_mem_cons.mpr ⟨lw_p9, List.forall_mem_cons.mpr ⟨lw_p10, List.forall_mem_cons.mpr ⟨lw_p11, List.forall_mem_cons.mpr ⟨lw_p12, List.forall_mem_cons.mpr ⟨lw_p13, List.forall_mem_cons.mpr ⟨lw_p14, List.forall_mem_cons.mpr ⟨lw_p15, fun _ h => absurd h List.not_mem_nil⟩⟩⟩⟩⟩⟩⟩⟩⟩⟩⟩⟩⟩⟩⟩⟩
theorem lw_p16 : lw_okq (⟨"IndexedCompiler$Reader", "isAdding", "()Z"⟩, 3) := ⟨⟨by decide +kernel, by decide +kernel⟩, List.mem_of_getElem? (i := 79) (by decide +kernel), List.mem_of_getElem? (i := 736) (by decide +kernel), List.mem_of_getElem? (i := 737) (by decide +kernel)⟩
theorem lw_p17 : lw_okq (⟨"IndexedCompiler$Reader", "takeRelation", "()I"⟩, 3) := ⟨⟨by decide +kernel, by decide +kernel⟩, List.mem_of_getElem? (i := 79) (by decide +kernel), List.mem_of_getElem? (i := 740) (by decide +kernel), List.mem_of_getElem? (i := 741) (by decide +kernel)⟩
theorem lw_p18 : lw_okq (⟨"IndexedCompiler$Reader", "readParameters", "()V"⟩, 3) := ⟨⟨by decide +kernel, by decide +kernel⟩, List.mem_of_getElem? (i := 79) (by decide +kernel), List.mem_of_getElem? (i := 748) (by decide +kernel), List.mem_of_getElem? (i := 749) (by decide +kernel)⟩
theorem lw_p19 : lw_okq (⟨"IndexedCompiler$Reader", "readType", "()I"⟩, 3) := ⟨⟨by decide +kernel, by decide +kernel⟩, List.mem_of_getElem? (i := 79) (by decide +kernel), List.mem_of_getElem? (i := 752) (by decide +kernel), List.mem_of_getElem? (i := 753) (by decide +kernel)⟩
theorem lw_p20 : lw_okq (⟨"IndexedCompiler$Reader", "readSteps", "(I)I"⟩, 3) := ⟨⟨by decide +kernel, by decide +kernel⟩, List.mem_of_getElem? (i := 79) (by decide +kernel), List.mem_of_getElem? (i := 756) (by decide +kernel), List.mem_of_getElem? (i := 757) (by decide +kernel)⟩
theorem lw_p21 : lw_okq (⟨"IndexedCompiler$Reader", "readStep", "(I)I"⟩, 3) := ⟨⟨by decide +kernel, by decide +kernel⟩, List.mem_of_getElem? (i := 79) (by decide +kernel), List.mem_of_getElem? (i := 760) (by decide +kernel), List.mem_of_getElem? (i := 761) (by decide +kernel)⟩
theorem lw_p22 : lw_okq (⟨"IndexedCompiler$Reader", "refuseDeeper", "(I)V"⟩, 3) := ⟨⟨by decide +kernel, by decide +kernel⟩, List.mem_of_getElem? (i := 79) (by decide +kernel), List.mem_of_getElem? (i := 764) (by decide +kernel), List.mem_of_getElem? (i := 765) (by decide +kernel)⟩
theorem lw_p23 : lw_okq (⟨"IndexedCompiler$Reader", "readLet", "(I)I"⟩, 3) := ⟨⟨by decide +kernel, by decide +kernel⟩, List.mem_of_getElem? (i := 79) (by decide +kernel), List.mem_of_getElem? (i := 768) (by decide +kernel), List.mem_of_getElem? (i := 769) (by decide +kernel)⟩
theorem lw_p24 : lw_okq (⟨"IndexedCompiler$Reader", "readChoice", "(I)I"⟩, 3) := ⟨⟨by decide +kernel, by decide +kernel⟩, List.mem_of_getElem? (i := 79) (by decide +kernel), List.mem_of_getElem? (i := 772) (by decide +kernel), List.mem_of_getElem? (i := 773) (by decide +kernel)⟩
theorem lw_p25 : lw_okq (⟨"IndexedCompiler$Reader", "readSum", "(I)I"⟩, 3) := ⟨⟨by decide +kernel, by decide +kernel⟩, List.mem_of_getElem? (i := 79) (by decide +kernel), List.mem_of_getElem? (i := 776) (by decide +kernel), List.mem_of_getElem? (i := 777) (by decide +kernel)⟩
theorem lw_p26 : lw_okq (⟨"IndexedCompiler$Reader", "readProduct", "(I)I"⟩, 3) := ⟨⟨by decide +kernel, by decide +kernel⟩, List.mem_of_getElem? (i := 79) (by decide +kernel), List.mem_of_getElem? (i := 780) (by decide +kernel), List.mem_of_getElem? (i := 781) (by decide +kernel)⟩
theorem lw_p27 : lw_okq (⟨"IndexedCompiler$Reader", "readPart", "(I)I"⟩, 3) := ⟨⟨by decide +kernel, by decide +kernel⟩, List.mem_of_getElem? (i := 79) (by decide +kernel), List.mem_of_getElem? (i := 784) (by decide +kernel), List.mem_of_getElem? (i := 785) (by decide +kernel)⟩
theorem lw_p28 : lw_okq (⟨"IndexedCompiler$Reader", "readAmount", "()I"⟩, 3) := ⟨⟨by decide +kernel, by decide +kernel⟩, List.mem_of_getElem? (i := 79) (by decide +kernel), List.mem_of_getElem? (i := 788) (by decide +kernel), List.mem_of_getElem? (i := 789) (by decide +kernel)⟩
theorem lw_p29 : lw_okq (⟨"IndexedCompiler$Reader", "readParen", "(I)I"⟩, 3) := ⟨⟨by decide +kernel, by decide +kernel⟩, List.mem_of_getElem? (i := 79) (by decide +kernel), List.mem_of_getElem? (i := 792) (by decide +kernel), List.mem_of_getElem? (i := 793) (by decide +kernel)⟩
theorem lw_p30 : lw_okq (⟨"IndexedCompiler$Reader", "readNameOrMore", "(I)I"⟩, 3) := ⟨⟨by decide +kernel, by decide +kernel⟩, List.mem_of_getElem? (i := 79) (by decide +kernel), List.mem_of_getElem? (i := 796) (by decide +kernel), List.mem_of_getElem? (i := 797) (by decide +kernel)⟩
theorem lw_p31 : lw_okq (⟨"IndexedCompiler$Reader", "readCall", "(II)V"⟩, 3) := ⟨⟨by decide +kernel, by decide +kernel⟩, List.mem_of_getElem? (i := 79) (by decide +kernel), List.mem_of_getElem? (i := 800) (by decide +kernel), List.mem_of_getElem? (i := 801) (by decide +kernel)⟩
def lw_privs_2 : List (MethodName × Nat) := [(⟨"IndexedCompiler$Reader", "isAdding", "()Z"⟩, 3), (⟨"IndexedCompiler$Reader", "takeRelation", "()I"⟩, 3), (⟨"IndexedCompiler$Reader", "readParameters", "()V"⟩, 3), (⟨"IndexedCompiler$Reader", "readType", "()I"⟩, 3), (⟨"IndexedCompiler$Reader", "readSteps", "(I)I"⟩, 3), (⟨"IndexedCompiler$Reader", "readStep", "(I)I"⟩, 3), (⟨"IndexedCompiler$Reader", "refuseDeeper", "(I)V"⟩, 3), (⟨"IndexedCompiler$Reader", "readLet", "(I)I"⟩, 3), (⟨"IndexedCompiler$Reader", "readChoice", "(I)I"⟩, 3), (⟨"IndexedCompiler$Reader", "readSum", "(I)I"⟩, 3), (⟨"IndexedCompiler$Reader", "readProduct", "(I)I"⟩, 3), (⟨"IndexedCompiler$Reader", "readPart", "(I)I"⟩, 3), (⟨"IndexedCompiler$Reader", "readAmount", "()I"⟩, 3), (⟨"IndexedCompiler$Reader", "readParen", "(I)I"⟩, 3), (⟨"IndexedCompiler$Reader", "readNameOrMore", "(I)I"⟩, 3), (⟨"IndexedCompiler$Reader", "readCall", "(II)V"⟩, 3)]
theorem lw_r2 : ∀ q ∈ lw_privs_2, lw_okq q := List.forall_mem_cons.mpr ⟨lw_p16, List.forall_mem_cons.mpr ⟨lw_p17, List.forall_mem_cons.mpr ⟨lw_p18, List.forall_mem_cons.mpr ⟨lw_p19, List.forall_mem_cons.mpr ⟨lw_p20, List.forall_mem_cons.mpr ⟨lw_p21, List.forall_mem_cons.mpr ⟨lw_p22, List.forall_mem_cons.mpr ⟨lw_p23, List.forall_mem_cons.mpr ⟨lw_p24, List.forall_mem_cons.mpr ⟨lw_p25, List.forall_mem_cons.mpr ⟨lw_p26, List.forall_mem_cons.mpr ⟨lw_p27, List.forall_mem_cons.mpr ⟨lw_p28, List.forall_mem_cons.mpr ⟨lw_p29, List.forall_mem_cons.mpr ⟨lw_p30, List.forall_mem_cons.mpr ⟨lw_p31, fun _ h => absurd h List.not_mem_nil⟩⟩⟩⟩⟩⟩⟩⟩⟩⟩⟩⟩⟩⟩⟩⟩
theorem lw_p32 : lw_okq (⟨"IndexedCompiler$Reader", "readIndexOfCall", "()I"⟩, 3) := ⟨⟨by decide +kernel, by decide +kernel⟩, List.mem_of_getElem? (i := 79) (by decide +kernel), List.mem_of_getElem? (i := 804) (by decide +kernel), List.mem_of_getElem? (i := 805) (by decide +kernel)⟩
theorem lw_p33 : lw_okq (⟨"IndexedCompiler$Reader", "isMultiplying", "()Z"⟩, 3) := ⟨⟨by decide +kernel, by decide +kernel⟩, List.mem_of_getElem? (i := 79) (by decide +kernel), List.mem_of_getElem? (i := 808) (by decide +kernel), List.mem_of_getElem? (i := 809) (by decide +kernel)⟩
theorem lw_p34 : lw_okq (⟨"IndexedCompiler$Reader", "readDivisor", "()I"⟩, 3) := ⟨⟨by decide +kernel, by decide +kernel⟩, List.mem_of_getElem? (i := 79) (by decide +kernel), List.mem_of_getElem? (i := 816) (by decide +kernel), List.mem_of_getElem? (i := 817) (by decide +kernel)⟩
theorem lw_p35 : lw_okq (⟨"IndexedCompiler", "sameNameAt", "(LIndexedCompiler$Tree;)I"⟩, 12) := ⟨⟨by decide +kernel, by decide +kernel⟩, List.mem_of_getElem? (i := 28) (by decide +kernel), List.mem_of_getElem? (i := 822) (by decide +kernel), List.mem_of_getElem? (i := 823) (by decide +kernel)⟩
theorem lw_p36 : lw_okq (⟨"IndexedCompiler$Tree", "bears", "(III)Z"⟩, 11) := ⟨⟨by decide +kernel, by decide +kernel⟩, List.mem_of_getElem? (i := 419) (by decide +kernel), List.mem_of_getElem? (i := 831) (by decide +kernel), List.mem_of_getElem? (i := 832) (by decide +kernel)⟩
theorem lw_p37 : lw_okq (⟨"IndexedCompiler$Checker", "startFunction", "()V"⟩, 15) := ⟨⟨by decide +kernel, by decide +kernel⟩, List.mem_of_getElem? (i := 98) (by decide +kernel), List.mem_of_getElem? (i := 858) (by decide +kernel), List.mem_of_getElem? (i := 859) (by decide +kernel)⟩
theorem lw_p38 : lw_okq (⟨"IndexedCompiler$Checker", "takeShape", "()LIndexedCompiler$Shape;"⟩, 15) := ⟨⟨by decide +kernel, by decide +kernel⟩, List.mem_of_getElem? (i := 98) (by decide +kernel), List.mem_of_getElem? (i := 868) (by decide +kernel), List.mem_of_getElem? (i := 869) (by decide +kernel)⟩
theorem lw_p39 : lw_okq (⟨"IndexedCompiler$Checker", "readHeader", "(LIndexedCompiler$Shape;)V"⟩, 15) := ⟨⟨by decide +kernel, by decide +kernel⟩, List.mem_of_getElem? (i := 98) (by decide +kernel), List.mem_of_getElem? (i := 907) (by decide +kernel), List.mem_of_getElem? (i := 908) (by decide +kernel)⟩
theorem lw_p40 : lw_okq (⟨"IndexedCompiler$Checker", "take", "()LIndexedCompiler$Expression;"⟩, 15) := ⟨⟨by decide +kernel, by decide +kernel⟩, List.mem_of_getElem? (i := 98) (by decide +kernel), List.mem_of_getElem? (i := 911) (by decide +kernel), List.mem_of_getElem? (i := 912) (by decide +kernel)⟩
theorem lw_p41 : lw_okq (⟨"IndexedCompiler$Checker", "bind", "(ILIndexedCompiler$Expression;)V"⟩, 15) := ⟨⟨by decide +kernel, by decide +kernel⟩, List.mem_of_getElem? (i := 98) (by decide +kernel), List.mem_of_getElem? (i := 933) (by decide +kernel), List.mem_of_getElem? (i := 934) (by decide +kernel)⟩
theorem lw_p42 : lw_okq (⟨"IndexedCompiler$Checker", "readProps", "(LIndexedCompiler$Tree;IILIndexedCompiler$Shape;)V"⟩, 15) := ⟨⟨by decide +kernel, by decide +kernel⟩, List.mem_of_getElem? (i := 98) (by decide +kernel), List.mem_of_getElem? (i := 938) (by decide +kernel), List.mem_of_getElem? (i := 939) (by decide +kernel)⟩
theorem lw_p43 : lw_okq (⟨"IndexedCompiler$Checker", "readIndex", "(LIndexedCompiler$Tree;IILIndexedCompiler$Expression;)V"⟩, 15) := ⟨⟨by decide +kernel, by decide +kernel⟩, List.mem_of_getElem? (i := 98) (by decide +kernel), List.mem_of_getElem? (i := 946) (by decide +kernel), List.mem_of_getElem? (i := 947) (by decide +kernel)⟩
theorem lw_p44 : lw_okq (⟨"IndexedCompiler$Checker", "find", "(I)I"⟩, 15) := ⟨⟨by decide +kernel, by decide +kernel⟩, List.mem_of_getElem? (i := 98) (by decide +kernel), List.mem_of_getElem? (i := 951) (by decide +kernel), List.mem_of_getElem? (i := 952) (by decide +kernel)⟩
theorem lw_p45 : lw_okq (⟨"IndexedCompiler$Checker", "pend", "(LIndexedCompiler$Shape;LIndexedCompiler$Expression;)V"⟩, 15) := ⟨⟨by decide +kernel, by decide +kernel⟩, List.mem_of_getElem? (i := 98) (by decide +kernel), List.mem_of_getElem? (i := 965) (by decide +kernel), List.mem_of_getElem? (i := 966) (by decide +kernel)⟩
theorem lw_p46 : lw_okq (⟨"IndexedCompiler$Checker", "readShape", "(LIndexedCompiler$Tree;IILIndexedCompiler$Shape;)V"⟩, 15) := ⟨⟨by decide +kernel, by decide +kernel⟩, List.mem_of_getElem? (i := 98) (by decide +kernel), List.mem_of_getElem? (i := 1000) (by decide +kernel), List.mem_of_getElem? (i := 1001) (by decide +kernel)⟩
theorem lw_p47 : lw_okq (⟨"IndexedCompiler$Checker", "give", "(LIndexedCompiler$Shape;LIndexedCompiler$Expression;I)V"⟩, 15) := ⟨⟨by decide +kernel, by decide +kernel⟩, List.mem_of_getElem? (i := 98) (by decide +kernel), List.mem_of_getElem? (i := 1008) (by decide +kernel), List.mem_of_getElem? (i := 1009) (by decide +kernel)⟩
def lw_privs_3 : List (MethodName × Nat) := [(⟨"IndexedCompiler$Reader", "readIndexOfCall", "()I"⟩, 3), (⟨"IndexedCompiler$Reader", "isMultiplying", "()Z"⟩, 3), (⟨"IndexedCompiler$Reader", "readDivisor", "()I"⟩, 3), (⟨"IndexedCompiler", "sameNameAt", "(LIndexedCompiler$Tree;)I"⟩, 12), (⟨"IndexedCompiler$Tree", "bears", "(III)Z"⟩, 11), (⟨"IndexedCompiler$Checker", "startFunction", "()V"⟩, 15), (⟨"IndexedCompiler$Checker", "takeShape", "()LIndexedCompiler$Shape;"⟩, 15), (⟨"IndexedCompiler$Checker", "readHeader", "(LIndexedCompiler$Shape;)V"⟩, 15), (⟨"IndexedCompiler$Checker", "take", "()LIndexedCompiler$Expression;"⟩, 15), (⟨"IndexedCompiler$Checker", "bind", "(ILIndexedCompiler$Expression;)V"⟩, 15), (⟨"IndexedCompiler$Checker", "readProps", "(LIndexedCompiler$Tree;IILIndexedCompiler$Shape;)V"⟩, 15), (⟨"IndexedCompiler$Checker", "readIndex", "(LIndexedCompiler$Tree;IILIndexedCompiler$Expression;)V"⟩, 15), (⟨"IndexedCompiler$Checker", "find", "(I)I"⟩, 15), (⟨"IndexedCompiler$Checker", "pend", "(LIndexedCompiler$Shape;LIndexedCompiler$Expression;)V"⟩, 15), (⟨"IndexedCompiler$Checker", "readShape", "(LIndexedCompiler$Tree;IILIndexedCompiler$Shape;)V"⟩, 15), (⟨"IndexedCompiler$Checker", "give", "(LIndexedCompiler$Shape;LIndexedCompiler$Expression;I)V"⟩, 15)]
theorem lw_r3 : ∀ q ∈ lw_privs_3, lw_okq q := List.forall_mem_cons.mpr ⟨lw_p32, List.forall_mem_cons.mpr ⟨lw_p33, List.forall_mem_cons.mpr ⟨lw_p34, List.forall_mem_cons.mpr ⟨lw_p35, List.forall_mem_cons.mpr ⟨lw_p36, List.forall_mem_cons.mpr ⟨lw_p37, List.forall_mem_cons.mpr ⟨lw_p38, List.forall_mem_cons.mpr ⟨lw_p39, List.forall_mem_cons.mpr ⟨lw_p40, List.forall_mem_cons.mpr ⟨lw_p41, List.forall_mem_cons.mpr ⟨lw_p42, List.forall_mem_cons.mpr ⟨lw_p43, List.forall_mem_cons.mpr ⟨lw_p44, List.forall_mem_cons.mpr ⟨lw_p45, List.forall_mem_cons.mpr ⟨lw_p46, List.forall_mem_cons.mpr ⟨lw_p47, fun _ h => absurd h List.not_mem_nil⟩⟩⟩⟩⟩⟩⟩⟩⟩⟩⟩⟩⟩⟩⟩⟩
theorem lw_p48 : lw_okq (⟨"IndexedCompiler$Checker", "lookAt", "(ILIndexedCompiler$Shape;)V"⟩, 15) := ⟨⟨by decide +kernel, by decide +kernel⟩, List.mem_of_getElem? (i := 98) (by decide +kernel), List.mem_of_getElem? (i := 1017) (by decide +kernel), List.mem_of_getElem? (i := 1018) (by decide +kernel)⟩
theorem lw_p49 : lw_okq (⟨"IndexedCompiler$Checker", "workOutAllButLast", "(I)I"⟩, 15) := ⟨⟨by decide +kernel, by decide +kernel⟩, List.mem_of_getElem? (i := 98) (by decide +kernel), List.mem_of_getElem? (i := 1021) (by decide +kernel), List.mem_of_getElem? (i := 1022) (by decide +kernel)⟩
theorem lw_p50 : lw_okq (⟨"IndexedCompiler$Checker", "workOut", "(ILIndexedCompiler$Expression;)V"⟩, 15) := ⟨⟨by decide +kernel, by decide +kernel⟩, List.mem_of_getElem? (i := 98) (by decide +kernel), List.mem_of_getElem? (i := 1025) (by decide +kernel), List.mem_of_getElem? (i := 1026) (by decide +kernel)⟩
theorem lw_p51 : lw_okq (⟨"IndexedCompiler$Checker", "meaningOf", "(I)LIndexedCompiler$Expression;"⟩, 15) := ⟨⟨by decide +kernel, by decide +kernel⟩, List.mem_of_getElem? (i := 98) (by decide +kernel), List.mem_of_getElem? (i := 1029) (by decide +kernel), List.mem_of_getElem? (i := 1030) (by decide +kernel)⟩
theorem lw_p52 : lw_okq (⟨"IndexedCompiler$Checker", "rowOf", "(I)LIndexedCompiler$Expression;"⟩, 15) := ⟨⟨by decide +kernel, by decide +kernel⟩, List.mem_of_getElem? (i := 98) (by decide +kernel), List.mem_of_getElem? (i := 1034) (by decide +kernel), List.mem_of_getElem? (i := 1035) (by decide +kernel)⟩
theorem lw_p53 : lw_okq (⟨"IndexedCompiler$Checker", "workOutAccess", "(ILIndexedCompiler$Expression;)V"⟩, 15) := ⟨⟨by decide +kernel, by decide +kernel⟩, List.mem_of_getElem? (i := 98) (by decide +kernel), List.mem_of_getElem? (i := 1038) (by decide +kernel), List.mem_of_getElem? (i := 1039) (by decide +kernel)⟩
theorem lw_p54 : lw_okq (⟨"IndexedCompiler$Checker", "workOutNumber", "(ILIndexedCompiler$Expression;)V"⟩, 15) := ⟨⟨by decide +kernel, by decide +kernel⟩, List.mem_of_getElem? (i := 98) (by decide +kernel), List.mem_of_getElem? (i := 1042) (by decide +kernel), List.mem_of_getElem? (i := 1043) (by decide +kernel)⟩
theorem lw_p55 : lw_okq (⟨"IndexedCompiler$Solver", "keepWork", "()V"⟩, 7) := ⟨⟨by decide +kernel, by decide +kernel⟩, List.mem_of_getElem? (i := 110) (by decide +kernel), List.mem_of_getElem? (i := 1061) (by decide +kernel), List.mem_of_getElem? (i := 1062) (by decide +kernel)⟩
theorem lw_p56 : lw_okq (⟨"IndexedCompiler$Solver", "takeAway", "(I)V"⟩, 7) := ⟨⟨by decide +kernel, by decide +kernel⟩, List.mem_of_getElem? (i := 110) (by decide +kernel), List.mem_of_getElem? (i := 1076) (by decide +kernel), List.mem_of_getElem? (i := 1077) (by decide +kernel)⟩
theorem lw_p57 : lw_okq (⟨"IndexedCompiler$Checker", "workOutCall", "(ILIndexedCompiler$Expression;)V"⟩, 15) := ⟨⟨by decide +kernel, by decide +kernel⟩, List.mem_of_getElem? (i := 98) (by decide +kernel), List.mem_of_getElem? (i := 1081) (by decide +kernel), List.mem_of_getElem? (i := 1082) (by decide +kernel)⟩
theorem lw_p58 : lw_okq (⟨"IndexedCompiler$Checker", "functionNamed", "(I)I"⟩, 15) := ⟨⟨by decide +kernel, by decide +kernel⟩, List.mem_of_getElem? (i := 98) (by decide +kernel), List.mem_of_getElem? (i := 1085) (by decide +kernel), List.mem_of_getElem? (i := 1086) (by decide +kernel)⟩
theorem lw_p59 : lw_okq (⟨"IndexedCompiler$Checker", "demandCall", "(LIndexedCompiler$Tree;IILIndexedCompiler$Expression;)V"⟩, 15) := ⟨⟨by decide +kernel, by decide +kernel⟩, List.mem_of_getElem? (i := 98) (by decide +kernel), List.mem_of_getElem? (i := 1096) (by decide +kernel), List.mem_of_getElem? (i := 1097) (by decide +kernel)⟩
theorem lw_p60 : lw_okq (⟨"IndexedCompiler$Checker", "pooled", "(I)LIndexedCompiler$Expression;"⟩, 15) := ⟨⟨by decide +kernel, by decide +kernel⟩, List.mem_of_getElem? (i := 98) (by decide +kernel), List.mem_of_getElem? (i := 1100) (by decide +kernel), List.mem_of_getElem? (i := 1101) (by decide +kernel)⟩
theorem lw_p61 : lw_okq (⟨"IndexedCompiler$Checker", "workOutTyped", "(ILIndexedCompiler$Expression;)V"⟩, 15) := ⟨⟨by decide +kernel, by decide +kernel⟩, List.mem_of_getElem? (i := 98) (by decide +kernel), List.mem_of_getElem? (i := 1104) (by decide +kernel), List.mem_of_getElem? (i := 1105) (by decide +kernel)⟩
theorem lw_p62 : lw_okq (⟨"IndexedCompiler$Checker", "workOutChain", "(ILIndexedCompiler$Expression;)V"⟩, 15) := ⟨⟨by decide +kernel, by decide +kernel⟩, List.mem_of_getElem? (i := 98) (by decide +kernel), List.mem_of_getElem? (i := 1108) (by decide +kernel), List.mem_of_getElem? (i := 1109) (by decide +kernel)⟩
theorem lw_p63 : lw_okq (⟨"IndexedCompiler$Checker", "workOutSum", "(ILIndexedCompiler$Expression;)V"⟩, 15) := ⟨⟨by decide +kernel, by decide +kernel⟩, List.mem_of_getElem? (i := 98) (by decide +kernel), List.mem_of_getElem? (i := 1112) (by decide +kernel), List.mem_of_getElem? (i := 1113) (by decide +kernel)⟩
def lw_privs_4 : List (MethodName × Nat) := [(⟨"IndexedCompiler$Checker", "lookAt", "(ILIndexedCompiler$Shape;)V"⟩, 15), (⟨"IndexedCompiler$Checker", "workOutAllButLast", "(I)I"⟩, 15), (⟨"IndexedCompiler$Checker", "workOut", "(ILIndexedCompiler$Expression;)V"⟩, 15), (⟨"IndexedCompiler$Checker", "meaningOf", "(I)LIndexedCompiler$Expression;"⟩, 15), (⟨"IndexedCompiler$Checker", "rowOf", "(I)LIndexedCompiler$Expression;"⟩, 15), (⟨"IndexedCompiler$Checker", "workOutAccess", "(ILIndexedCompiler$Expression;)V"⟩, 15), (⟨"IndexedCompiler$Checker", "workOutNumber", "(ILIndexedCompiler$Expression;)V"⟩, 15), (⟨"IndexedCompiler$Solver", "keepWork", "()V"⟩, 7), (⟨"IndexedCompiler$Solver", "takeAway", "(I)V"⟩, 7), (⟨"IndexedCompiler$Checker", "workOutCall", "(ILIndexedCompiler$Expression;)V"⟩, 15), (⟨"IndexedCompiler$Checker", "functionNamed", "(I)I"⟩, 15), (⟨"IndexedCompiler$Checker", "demandCall", "(LIndexedCompiler$Tree;IILIndexedCompiler$Expression;)V"⟩, 15), (⟨"IndexedCompiler$Checker", "pooled", "(I)LIndexedCompiler$Expression;"⟩, 15), (⟨"IndexedCompiler$Checker", "workOutTyped", "(ILIndexedCompiler$Expression;)V"⟩, 15), (⟨"IndexedCompiler$Checker", "workOutChain", "(ILIndexedCompiler$Expression;)V"⟩, 15), (⟨"IndexedCompiler$Checker", "workOutSum", "(ILIndexedCompiler$Expression;)V"⟩, 15)]
theorem lw_r4 : ∀ q ∈ lw_privs_4, lw_okq q := List.forall_mem_cons.mpr ⟨lw_p48, List.forall_mem_cons.mpr ⟨lw_p49, List.forall_mem_cons.mpr ⟨lw_p50, List.forall_mem_cons.mpr ⟨lw_p51, List.forall_mem_cons.mpr ⟨lw_p52, List.forall_mem_cons.mpr ⟨lw_p53, List.forall_mem_cons.mpr ⟨lw_p54, List.forall_mem_cons.mpr ⟨lw_p55, List.forall_mem_cons.mpr ⟨lw_p56, List.forall_mem_cons.mpr ⟨lw_p57, List.forall_mem_cons.mpr ⟨lw_p58, List.forall_mem_cons.mpr ⟨lw_p59, List.forall_mem_cons.mpr ⟨lw_p60, List.forall_mem_cons.mpr ⟨lw_p61, List.forall_mem_cons.mpr ⟨lw_p62, List.forall_mem_cons.mpr ⟨lw_p63, fun _ h => absurd h List.not_mem_nil⟩⟩⟩⟩⟩⟩⟩⟩⟩⟩⟩⟩⟩⟩⟩⟩
theorem lw_p64 : lw_okq (⟨"IndexedCompiler$Checker", "keepSmall", "(LIndexedCompiler$Expression;I)V"⟩, 15) := ⟨⟨by decide +kernel, by decide +kernel⟩, List.mem_of_getElem? (i := 98) (by decide +kernel), List.mem_of_getElem? (i := 1116) (by decide +kernel), List.mem_of_getElem? (i := 1117) (by decide +kernel)⟩
theorem lw_p65 : lw_okq (⟨"IndexedCompiler$Checker", "workOutProduct", "(ILIndexedCompiler$Expression;)V"⟩, 15) := ⟨⟨by decide +kernel, by decide +kernel⟩, List.mem_of_getElem? (i := 98) (by decide +kernel), List.mem_of_getElem? (i := 1120) (by decide +kernel), List.mem_of_getElem? (i := 1121) (by decide +kernel)⟩
theorem lw_p66 : lw_okq (⟨"IndexedCompiler$Checker", "divide", "(IILIndexedCompiler$Expression;)V"⟩, 15) := ⟨⟨by decide +kernel, by decide +kernel⟩, List.mem_of_getElem? (i := 98) (by decide +kernel), List.mem_of_getElem? (i := 1124) (by decide +kernel), List.mem_of_getElem? (i := 1125) (by decide +kernel)⟩
theorem lw_p67 : lw_okq (⟨"IndexedCompiler$Checker", "multiply", "(ILIndexedCompiler$Expression;LIndexedCompiler$Expression;)V"⟩, 15) := ⟨⟨by decide +kernel, by decide +kernel⟩, List.mem_of_getElem? (i := 98) (by decide +kernel), List.mem_of_getElem? (i := 1128) (by decide +kernel), List.mem_of_getElem? (i := 1129) (by decide +kernel)⟩
theorem lw_p68 : lw_okq (⟨"IndexedCompiler$Checker", "openLet", "(I)I"⟩, 15) := ⟨⟨by decide +kernel, by decide +kernel⟩, List.mem_of_getElem? (i := 98) (by decide +kernel), List.mem_of_getElem? (i := 1140) (by decide +kernel), List.mem_of_getElem? (i := 1141) (by decide +kernel)⟩
theorem lw_p69 : lw_okq (⟨"IndexedCompiler$Checker", "closeLet", "()V"⟩, 15) := ⟨⟨by decide +kernel, by decide +kernel⟩, List.mem_of_getElem? (i := 98) (by decide +kernel), List.mem_of_getElem? (i := 1144) (by decide +kernel), List.mem_of_getElem? (i := 1145) (by decide +kernel)⟩
theorem lw_p70 : lw_okq (⟨"IndexedCompiler$Checker", "workOutChoice", "(ILIndexedCompiler$Expression;)V"⟩, 15) := ⟨⟨by decide +kernel, by decide +kernel⟩, List.mem_of_getElem? (i := 98) (by decide +kernel), List.mem_of_getElem? (i := 1148) (by decide +kernel), List.mem_of_getElem? (i := 1149) (by decide +kernel)⟩
theorem lw_p71 : lw_okq (⟨"IndexedCompiler$Checker", "compare", "(ILIndexedCompiler$Expression;)I"⟩, 15) := ⟨⟨by decide +kernel, by decide +kernel⟩, List.mem_of_getElem? (i := 98) (by decide +kernel), List.mem_of_getElem? (i := 1152) (by decide +kernel), List.mem_of_getElem? (i := 1153) (by decide +kernel)⟩
theorem lw_p72 : lw_okq (⟨"IndexedCompiler$Checker", "tellContrary", "(ILIndexedCompiler$Expression;)V"⟩, 15) := ⟨⟨by decide +kernel, by decide +kernel⟩, List.mem_of_getElem? (i := 98) (by decide +kernel), List.mem_of_getElem? (i := 1156) (by decide +kernel), List.mem_of_getElem? (i := 1157) (by decide +kernel)⟩
theorem lw_p73 : lw_okq (⟨"IndexedCompiler$Checker", "lookAtChoice", "(ILIndexedCompiler$Shape;)V"⟩, 15) := ⟨⟨by decide +kernel, by decide +kernel⟩, List.mem_of_getElem? (i := 98) (by decide +kernel), List.mem_of_getElem? (i := 1167) (by decide +kernel), List.mem_of_getElem? (i := 1168) (by decide +kernel)⟩
theorem lw_p74 : lw_okq (⟨"IndexedCompiler$Checker", "lookAtPlain", "(ILIndexedCompiler$Shape;)V"⟩, 15) := ⟨⟨by decide +kernel, by decide +kernel⟩, List.mem_of_getElem? (i := 98) (by decide +kernel), List.mem_of_getElem? (i := 1171) (by decide +kernel), List.mem_of_getElem? (i := 1172) (by decide +kernel)⟩
theorem lw_p75 : lw_okq (⟨"IndexedCompiler$Coder", "emitSteps", "(I)V"⟩, 7) := ⟨⟨by decide +kernel, by decide +kernel⟩, List.mem_of_getElem? (i := 262) (by decide +kernel), List.mem_of_getElem? (i := 1183) (by decide +kernel), List.mem_of_getElem? (i := 1184) (by decide +kernel)⟩
theorem lw_p76 : lw_okq (⟨"IndexedCompiler$Coder", "emit", "(II)V"⟩, 7) := ⟨⟨by decide +kernel, by decide +kernel⟩, List.mem_of_getElem? (i := 262) (by decide +kernel), List.mem_of_getElem? (i := 1188) (by decide +kernel), List.mem_of_getElem? (i := 1189) (by decide +kernel)⟩
theorem lw_p77 : lw_okq (⟨"IndexedCompiler$Coder", "emitChoice", "(II)V"⟩, 7) := ⟨⟨by decide +kernel, by decide +kernel⟩, List.mem_of_getElem? (i := 262) (by decide +kernel), List.mem_of_getElem? (i := 1193) (by decide +kernel), List.mem_of_getElem? (i := 1194) (by decide +kernel)⟩
theorem lw_p78 : lw_okq (⟨"IndexedCompiler$Coder", "aim", "(I)V"⟩, 7) := ⟨⟨by decide +kernel, by decide +kernel⟩, List.mem_of_getElem? (i := 262) (by decide +kernel), List.mem_of_getElem? (i := 1197) (by decide +kernel), List.mem_of_getElem? (i := 1198) (by decide +kernel)⟩
theorem lw_p79 : lw_okq (⟨"IndexedCompiler$Coder", "emitChain", "(II)V"⟩, 7) := ⟨⟨by decide +kernel, by decide +kernel⟩, List.mem_of_getElem? (i := 262) (by decide +kernel), List.mem_of_getElem? (i := 1201) (by decide +kernel), List.mem_of_getElem? (i := 1202) (by decide +kernel)⟩
def lw_privs_5 : List (MethodName × Nat) := [(⟨"IndexedCompiler$Checker", "keepSmall", "(LIndexedCompiler$Expression;I)V"⟩, 15), (⟨"IndexedCompiler$Checker", "workOutProduct", "(ILIndexedCompiler$Expression;)V"⟩, 15), (⟨"IndexedCompiler$Checker", "divide", "(IILIndexedCompiler$Expression;)V"⟩, 15), (⟨"IndexedCompiler$Checker", "multiply", "(ILIndexedCompiler$Expression;LIndexedCompiler$Expression;)V"⟩, 15), (⟨"IndexedCompiler$Checker", "openLet", "(I)I"⟩, 15), (⟨"IndexedCompiler$Checker", "closeLet", "()V"⟩, 15), (⟨"IndexedCompiler$Checker", "workOutChoice", "(ILIndexedCompiler$Expression;)V"⟩, 15), (⟨"IndexedCompiler$Checker", "compare", "(ILIndexedCompiler$Expression;)I"⟩, 15), (⟨"IndexedCompiler$Checker", "tellContrary", "(ILIndexedCompiler$Expression;)V"⟩, 15), (⟨"IndexedCompiler$Checker", "lookAtChoice", "(ILIndexedCompiler$Shape;)V"⟩, 15), (⟨"IndexedCompiler$Checker", "lookAtPlain", "(ILIndexedCompiler$Shape;)V"⟩, 15), (⟨"IndexedCompiler$Coder", "emitSteps", "(I)V"⟩, 7), (⟨"IndexedCompiler$Coder", "emit", "(II)V"⟩, 7), (⟨"IndexedCompiler$Coder", "emitChoice", "(II)V"⟩, 7), (⟨"IndexedCompiler$Coder", "aim", "(I)V"⟩, 7), (⟨"IndexedCompiler$Coder", "emitChain", "(II)V"⟩, 7)]
theorem lw_r5 : ∀ q ∈ lw_privs_5, lw_okq q := List.forall_mem_cons.mpr ⟨lw_p64, List.forall_mem_cons.mpr ⟨lw_p65, List.forall_mem_cons.mpr ⟨lw_p66, List.forall_mem_cons.mpr ⟨lw_p67, List.forall_mem_cons.mpr ⟨lw_p68, List.forall_mem_cons.mpr ⟨lw_p69, List.forall_mem_cons.mpr ⟨lw_p70, List.forall_mem_cons.mpr ⟨lw_p71, List.forall_mem_cons.mpr ⟨lw_p72, List.forall_mem_cons.mpr ⟨lw_p73, List.forall_mem_cons.mpr ⟨lw_p74, List.forall_mem_cons.mpr ⟨lw_p75, List.forall_mem_cons.mpr ⟨lw_p76, List.forall_mem_cons.mpr ⟨lw_p77, List.forall_mem_cons.mpr ⟨lw_p78, List.forall_mem_cons.mpr ⟨lw_p79, fun _ h => absurd h List.not_mem_nil⟩⟩⟩⟩⟩⟩⟩⟩⟩⟩⟩⟩⟩⟩⟩⟩
theorem lw_p80 : lw_okq (⟨"IndexedCompiler$Coder", "emitOperands", "(II)V"⟩, 7) := ⟨⟨by decide +kernel, by decide +kernel⟩, List.mem_of_getElem? (i := 262) (by decide +kernel), List.mem_of_getElem? (i := 1205) (by decide +kernel), List.mem_of_getElem? (i := 1206) (by decide +kernel)⟩
theorem lw_p81 : lw_okq (⟨"IndexedCompiler$Machine", "lengthOf", "(I)I"⟩, 14) := ⟨⟨by decide +kernel, by decide +kernel⟩, List.mem_of_getElem? (i := 314) (by decide +kernel), List.mem_of_getElem? (i := 1221) (by decide +kernel), List.mem_of_getElem? (i := 1222) (by decide +kernel)⟩
theorem lw_p82 : lw_okq (⟨"IndexedCompiler$Machine", "cell", "(I)I"⟩, 14) := ⟨⟨by decide +kernel, by decide +kernel⟩, List.mem_of_getElem? (i := 314) (by decide +kernel), List.mem_of_getElem? (i := 1225) (by decide +kernel), List.mem_of_getElem? (i := 1226) (by decide +kernel)⟩
theorem lw_p83 : lw_okq (⟨"IndexedCompiler", "canRun", "(I)Z"⟩, 12) := ⟨⟨by decide +kernel, by decide +kernel⟩, List.mem_of_getElem? (i := 28) (by decide +kernel), List.mem_of_getElem? (i := 1307) (by decide +kernel), List.mem_of_getElem? (i := 1308) (by decide +kernel)⟩
theorem lw_p84 : lw_okq (⟨"IndexedCompiler$Slots", "holdAll", "(LIndexedCompiler$Tree;III)Z"⟩, 4) := ⟨⟨by decide +kernel, by decide +kernel⟩, List.mem_of_getElem? (i := 295) (by decide +kernel), List.mem_of_getElem? (i := 1412) (by decide +kernel), List.mem_of_getElem? (i := 1413) (by decide +kernel)⟩
theorem lw_p85 : lw_okq (⟨"IndexedCompiler$Slots", "indexValue", "(LIndexedCompiler$Tree;III)J"⟩, 4) := ⟨⟨by decide +kernel, by decide +kernel⟩, List.mem_of_getElem? (i := 295) (by decide +kernel), List.mem_of_getElem? (i := 1416) (by decide +kernel), List.mem_of_getElem? (i := 1417) (by decide +kernel)⟩
theorem lw_p86 : lw_okq (⟨"IndexedCompiler$Slots", "named", "(LIndexedCompiler$Tree;I)I"⟩, 4) := ⟨⟨by decide +kernel, by decide +kernel⟩, List.mem_of_getElem? (i := 295) (by decide +kernel), List.mem_of_getElem? (i := 1420) (by decide +kernel), List.mem_of_getElem? (i := 1421) (by decide +kernel)⟩
theorem lw_p87 : lw_okq (⟨"IndexedCompiler$Slots", "isOf", "(LIndexedCompiler$Tree;II)Z"⟩, 4) := ⟨⟨by decide +kernel, by decide +kernel⟩, List.mem_of_getElem? (i := 295) (by decide +kernel), List.mem_of_getElem? (i := 1428) (by decide +kernel), List.mem_of_getElem? (i := 1429) (by decide +kernel)⟩
theorem lw_p88 : lw_okq (⟨"IndexedCompiler$Machine", "start", "(I)V"⟩, 14) := ⟨⟨by decide +kernel, by decide +kernel⟩, List.mem_of_getElem? (i := 314) (by decide +kernel), List.mem_of_getElem? (i := 1436) (by decide +kernel), List.mem_of_getElem? (i := 1437) (by decide +kernel)⟩
theorem lw_p89 : lw_okq (⟨"IndexedCompiler$Machine", "loadSlots", "(LIndexedCompiler$Slots;)V"⟩, 14) := ⟨⟨by decide +kernel, by decide +kernel⟩, List.mem_of_getElem? (i := 314) (by decide +kernel), List.mem_of_getElem? (i := 1443) (by decide +kernel), List.mem_of_getElem? (i := 1444) (by decide +kernel)⟩
theorem lw_p90 : lw_okq (⟨"IndexedCompiler$Machine", "parametersOf", "(I)I"⟩, 14) := ⟨⟨by decide +kernel, by decide +kernel⟩, List.mem_of_getElem? (i := 314) (by decide +kernel), List.mem_of_getElem? (i := 1447) (by decide +kernel), List.mem_of_getElem? (i := 1448) (by decide +kernel)⟩
theorem lw_p91 : lw_okq (⟨"IndexedCompiler$Machine", "takeRow", "(I)I"⟩, 14) := ⟨⟨by decide +kernel, by decide +kernel⟩, List.mem_of_getElem? (i := 314) (by decide +kernel), List.mem_of_getElem? (i := 1454) (by decide +kernel), List.mem_of_getElem? (i := 1455) (by decide +kernel)⟩
theorem lw_p92 : lw_okq (⟨"IndexedCompiler$Machine", "changeCell", "(II)V"⟩, 14) := ⟨⟨by decide +kernel, by decide +kernel⟩, List.mem_of_getElem? (i := 314) (by decide +kernel), List.mem_of_getElem? (i := 1459) (by decide +kernel), List.mem_of_getElem? (i := 1460) (by decide +kernel)⟩
theorem lw_p93 : lw_okq (⟨"IndexedCompiler$Machine", "step", "()I"⟩, 14) := ⟨⟨by decide +kernel, by decide +kernel⟩, List.mem_of_getElem? (i := 314) (by decide +kernel), List.mem_of_getElem? (i := 1463) (by decide +kernel), List.mem_of_getElem? (i := 1464) (by decide +kernel)⟩
theorem lw_p94 : lw_okq (⟨"IndexedCompiler$Machine", "push", "(I)I"⟩, 14) := ⟨⟨by decide +kernel, by decide +kernel⟩, List.mem_of_getElem? (i := 314) (by decide +kernel), List.mem_of_getElem? (i := 1468) (by decide +kernel), List.mem_of_getElem? (i := 1469) (by decide +kernel)⟩
theorem lw_p95 : lw_okq (⟨"IndexedCompiler$Machine", "localPlace", "(I)I"⟩, 14) := ⟨⟨by decide +kernel, by decide +kernel⟩, List.mem_of_getElem? (i := 314) (by decide +kernel), List.mem_of_getElem? (i := 1472) (by decide +kernel), List.mem_of_getElem? (i := 1473) (by decide +kernel)⟩
def lw_privs_6 : List (MethodName × Nat) := [(⟨"IndexedCompiler$Coder", "emitOperands", "(II)V"⟩, 7), (⟨"IndexedCompiler$Machine", "lengthOf", "(I)I"⟩, 14), (⟨"IndexedCompiler$Machine", "cell", "(I)I"⟩, 14), (⟨"IndexedCompiler", "canRun", "(I)Z"⟩, 12), (⟨"IndexedCompiler$Slots", "holdAll", "(LIndexedCompiler$Tree;III)Z"⟩, 4), (⟨"IndexedCompiler$Slots", "indexValue", "(LIndexedCompiler$Tree;III)J"⟩, 4), (⟨"IndexedCompiler$Slots", "named", "(LIndexedCompiler$Tree;I)I"⟩, 4), (⟨"IndexedCompiler$Slots", "isOf", "(LIndexedCompiler$Tree;II)Z"⟩, 4), (⟨"IndexedCompiler$Machine", "start", "(I)V"⟩, 14), (⟨"IndexedCompiler$Machine", "loadSlots", "(LIndexedCompiler$Slots;)V"⟩, 14), (⟨"IndexedCompiler$Machine", "parametersOf", "(I)I"⟩, 14), (⟨"IndexedCompiler$Machine", "takeRow", "(I)I"⟩, 14), (⟨"IndexedCompiler$Machine", "changeCell", "(II)V"⟩, 14), (⟨"IndexedCompiler$Machine", "step", "()I"⟩, 14), (⟨"IndexedCompiler$Machine", "push", "(I)I"⟩, 14), (⟨"IndexedCompiler$Machine", "localPlace", "(I)I"⟩, 14)]
theorem lw_r6 : ∀ q ∈ lw_privs_6, lw_okq q := List.forall_mem_cons.mpr ⟨lw_p80, List.forall_mem_cons.mpr ⟨lw_p81, List.forall_mem_cons.mpr ⟨lw_p82, List.forall_mem_cons.mpr ⟨lw_p83, List.forall_mem_cons.mpr ⟨lw_p84, List.forall_mem_cons.mpr ⟨lw_p85, List.forall_mem_cons.mpr ⟨lw_p86, List.forall_mem_cons.mpr ⟨lw_p87, List.forall_mem_cons.mpr ⟨lw_p88, List.forall_mem_cons.mpr ⟨lw_p89, List.forall_mem_cons.mpr ⟨lw_p90, List.forall_mem_cons.mpr ⟨lw_p91, List.forall_mem_cons.mpr ⟨lw_p92, List.forall_mem_cons.mpr ⟨lw_p93, List.forall_mem_cons.mpr ⟨lw_p94, List.forall_mem_cons.mpr ⟨lw_p95, fun _ h => absurd h List.not_mem_nil⟩⟩⟩⟩⟩⟩⟩⟩⟩⟩⟩⟩⟩⟩⟩⟩
theorem lw_p96 : lw_okq (⟨"IndexedCompiler$Machine", "pop", "()I"⟩, 14) := ⟨⟨by decide +kernel, by decide +kernel⟩, List.mem_of_getElem? (i := 314) (by decide +kernel), List.mem_of_getElem? (i := 1476) (by decide +kernel), List.mem_of_getElem? (i := 1477) (by decide +kernel)⟩
theorem lw_p97 : lw_okq (⟨"IndexedCompiler$Machine", "calculate", "(I)I"⟩, 14) := ⟨⟨by decide +kernel, by decide +kernel⟩, List.mem_of_getElem? (i := 314) (by decide +kernel), List.mem_of_getElem? (i := 1480) (by decide +kernel), List.mem_of_getElem? (i := 1481) (by decide +kernel)⟩
theorem lw_p98 : lw_okq (⟨"IndexedCompiler$Machine", "open", "(I)I"⟩, 14) := ⟨⟨by decide +kernel, by decide +kernel⟩, List.mem_of_getElem? (i := 314) (by decide +kernel), List.mem_of_getElem? (i := 1489) (by decide +kernel), List.mem_of_getElem? (i := 1490) (by decide +kernel)⟩
theorem lw_p99 : lw_okq (⟨"IndexedCompiler$Machine", "close", "()I"⟩, 14) := ⟨⟨by decide +kernel, by decide +kernel⟩, List.mem_of_getElem? (i := 314) (by decide +kernel), List.mem_of_getElem? (i := 1494) (by decide +kernel), List.mem_of_getElem? (i := 1495) (by decide +kernel)⟩
theorem lw_p100 : lw_okq (⟨"IndexedCompiler$Machine", "jumpUnless", "(II)I"⟩, 14) := ⟨⟨by decide +kernel, by decide +kernel⟩, List.mem_of_getElem? (i := 314) (by decide +kernel), List.mem_of_getElem? (i := 1498) (by decide +kernel), List.mem_of_getElem? (i := 1499) (by decide +kernel)⟩
theorem lw_p101 : lw_okq (⟨"IndexedCompiler$Machine", "stepOnRow", "(I)I"⟩, 14) := ⟨⟨by decide +kernel, by decide +kernel⟩, List.mem_of_getElem? (i := 314) (by decide +kernel), List.mem_of_getElem? (i := 1503) (by decide +kernel), List.mem_of_getElem? (i := 1504) (by decide +kernel)⟩
theorem lw_p102 : lw_okq (⟨"IndexedCompiler$Machine", "makeRow", "(I)I"⟩, 14) := ⟨⟨by decide +kernel, by decide +kernel⟩, List.mem_of_getElem? (i := 314) (by decide +kernel), List.mem_of_getElem? (i := 1507) (by decide +kernel), List.mem_of_getElem? (i := 1508) (by decide +kernel)⟩
theorem lw_p103 : lw_okq (⟨"IndexedCompiler$Machine", "printTop", "()I"⟩, 14) := ⟨⟨by decide +kernel, by decide +kernel⟩, List.mem_of_getElem? (i := 314) (by decide +kernel), List.mem_of_getElem? (i := 1511) (by decide +kernel), List.mem_of_getElem? (i := 1512) (by decide +kernel)⟩
theorem lw_p104 : lw_okq (⟨"IndexedCompiler$Machine", "access", "(II)I"⟩, 14) := ⟨⟨by decide +kernel, by decide +kernel⟩, List.mem_of_getElem? (i := 314) (by decide +kernel), List.mem_of_getElem? (i := 1515) (by decide +kernel), List.mem_of_getElem? (i := 1516) (by decide +kernel)⟩
theorem lw_p105 : lw_okq (⟨"IndexedCompiler$Machine", "takeAnswer", "(I)V"⟩, 14) := ⟨⟨by decide +kernel, by decide +kernel⟩, List.mem_of_getElem? (i := 314) (by decide +kernel), List.mem_of_getElem? (i := 1519) (by decide +kernel), List.mem_of_getElem? (i := 1520) (by decide +kernel)⟩
theorem lw_p106 : lw_okq (⟨"IndexedCompiler$Machine", "saveSlots", "(LIndexedCompiler$Slots;I)V"⟩, 14) := ⟨⟨by decide +kernel, by decide +kernel⟩, List.mem_of_getElem? (i := 314) (by decide +kernel), List.mem_of_getElem? (i := 1523) (by decide +kernel), List.mem_of_getElem? (i := 1524) (by decide +kernel)⟩
theorem lw_p107 : lw_okq (⟨"IndexedCompilerModel", "put", "(II)V"⟩, 145) := ⟨⟨by decide +kernel, by decide +kernel⟩, List.mem_of_getElem? (i := 1572) (by decide +kernel), List.mem_of_getElem? (i := 2022) (by decide +kernel), List.mem_of_getElem? (i := 2023) (by decide +kernel)⟩
theorem lw_p108 : lw_okq (⟨"IndexedCompilerModel", "refused", "(I)Z"⟩, 145) := ⟨⟨by decide +kernel, by decide +kernel⟩, List.mem_of_getElem? (i := 1572) (by decide +kernel), List.mem_of_getElem? (i := 2026) (by decide +kernel), List.mem_of_getElem? (i := 2027) (by decide +kernel)⟩
theorem lw_p109 : lw_okq (⟨"IndexedCompilerModel", "readFunction", "(I)Z"⟩, 145) := ⟨⟨by decide +kernel, by decide +kernel⟩, List.mem_of_getElem? (i := 1572) (by decide +kernel), List.mem_of_getElem? (i := 2038) (by decide +kernel), List.mem_of_getElem? (i := 2039) (by decide +kernel)⟩
theorem lw_p110 : lw_okq (⟨"IndexedCompilerModel", "tokens", "()V"⟩, 145) := ⟨⟨by decide +kernel, by decide +kernel⟩, List.mem_of_getElem? (i := 1572) (by decide +kernel), List.mem_of_getElem? (i := 2042) (by decide +kernel), List.mem_of_getElem? (i := 2043) (by decide +kernel)⟩
theorem lw_p111 : lw_okq (⟨"IndexedCompilerModel", "at", "(I)C"⟩, 145) := ⟨⟨by decide +kernel, by decide +kernel⟩, List.mem_of_getElem? (i := 1572) (by decide +kernel), List.mem_of_getElem? (i := 2049) (by decide +kernel), List.mem_of_getElem? (i := 2050) (by decide +kernel)⟩
def lw_privs_7 : List (MethodName × Nat) := [(⟨"IndexedCompiler$Machine", "pop", "()I"⟩, 14), (⟨"IndexedCompiler$Machine", "calculate", "(I)I"⟩, 14), (⟨"IndexedCompiler$Machine", "open", "(I)I"⟩, 14), (⟨"IndexedCompiler$Machine", "close", "()I"⟩, 14), (⟨"IndexedCompiler$Machine", "jumpUnless", "(II)I"⟩, 14), (⟨"IndexedCompiler$Machine", "stepOnRow", "(I)I"⟩, 14), (⟨"IndexedCompiler$Machine", "makeRow", "(I)I"⟩, 14), (⟨"IndexedCompiler$Machine", "printTop", "()I"⟩, 14), (⟨"IndexedCompiler$Machine", "access", "(II)I"⟩, 14), (⟨"IndexedCompiler$Machine", "takeAnswer", "(I)V"⟩, 14), (⟨"IndexedCompiler$Machine", "saveSlots", "(LIndexedCompiler$Slots;I)V"⟩, 14), (⟨"IndexedCompilerModel", "put", "(II)V"⟩, 145), (⟨"IndexedCompilerModel", "refused", "(I)Z"⟩, 145), (⟨"IndexedCompilerModel", "readFunction", "(I)Z"⟩, 145), (⟨"IndexedCompilerModel", "tokens", "()V"⟩, 145), (⟨"IndexedCompilerModel", "at", "(I)C"⟩, 145)]
theorem lw_r7 : ∀ q ∈ lw_privs_7, lw_okq q := List.forall_mem_cons.mpr ⟨lw_p96, List.forall_mem_cons.mpr ⟨lw_p97, List.forall_mem_cons.mpr ⟨lw_p98, List.forall_mem_cons.mpr ⟨lw_p99, List.forall_mem_cons.mpr ⟨lw_p100, List.forall_mem_cons.mpr ⟨lw_p101, List.forall_mem_cons.mpr ⟨lw_p102, List.forall_mem_cons.mpr ⟨lw_p103, List.forall_mem_cons.mpr ⟨lw_p104, List.forall_mem_cons.mpr ⟨lw_p105, List.forall_mem_cons.mpr ⟨lw_p106, List.forall_mem_cons.mpr ⟨lw_p107, List.forall_mem_cons.mpr ⟨lw_p108, List.forall_mem_cons.mpr ⟨lw_p109, List.forall_mem_cons.mpr ⟨lw_p110, List.forall_mem_cons.mpr ⟨lw_p111, fun _ h => absurd h List.not_mem_nil⟩⟩⟩⟩⟩⟩⟩⟩⟩⟩⟩⟩⟩⟩⟩⟩
theorem lw_p112 : lw_okq (⟨"IndexedCompilerModel", "wantWord", "(I)V"⟩, 145) := ⟨⟨by decide +kernel, by decide +kernel⟩, List.mem_of_getElem? (i := 1572) (by decide +kernel), List.mem_of_getElem? (i := 2059) (by decide +kernel), List.mem_of_getElem? (i := 2060) (by decide +kernel)⟩
theorem lw_p113 : lw_okq (⟨"IndexedCompilerModel", "isWordHere", "(I)Z"⟩, 145) := ⟨⟨by decide +kernel, by decide +kernel⟩, List.mem_of_getElem? (i := 1572) (by decide +kernel), List.mem_of_getElem? (i := 2063) (by decide +kernel), List.mem_of_getElem? (i := 2064) (by decide +kernel)⟩
theorem lw_p114 : lw_okq (⟨"IndexedCompilerModel", "wrong", "()V"⟩, 145) := ⟨⟨by decide +kernel, by decide +kernel⟩, List.mem_of_getElem? (i := 1572) (by decide +kernel), List.mem_of_getElem? (i := 2067) (by decide +kernel), List.mem_of_getElem? (i := 2068) (by decide +kernel)⟩
theorem lw_p115 : lw_okq (⟨"IndexedCompilerModel", "wantName", "()I"⟩, 145) := ⟨⟨by decide +kernel, by decide +kernel⟩, List.mem_of_getElem? (i := 1572) (by decide +kernel), List.mem_of_getElem? (i := 2071) (by decide +kernel), List.mem_of_getElem? (i := 2072) (by decide +kernel)⟩
theorem lw_p116 : lw_okq (⟨"IndexedCompilerModel", "isNameHere", "()Z"⟩, 145) := ⟨⟨by decide +kernel, by decide +kernel⟩, List.mem_of_getElem? (i := 1572) (by decide +kernel), List.mem_of_getElem? (i := 2075) (by decide +kernel), List.mem_of_getElem? (i := 2076) (by decide +kernel)⟩
theorem lw_p117 : lw_okq (⟨"IndexedCompilerModel", "isMarkHere", "(I)Z"⟩, 145) := ⟨⟨by decide +kernel, by decide +kernel⟩, List.mem_of_getElem? (i := 1572) (by decide +kernel), List.mem_of_getElem? (i := 2084) (by decide +kernel), List.mem_of_getElem? (i := 2085) (by decide +kernel)⟩
theorem lw_p118 : lw_okq (⟨"IndexedCompilerModel", "readIndexNames", "(I)V"⟩, 145) := ⟨⟨by decide +kernel, by decide +kernel⟩, List.mem_of_getElem? (i := 1572) (by decide +kernel), List.mem_of_getElem? (i := 2088) (by decide +kernel), List.mem_of_getElem? (i := 2089) (by decide +kernel)⟩
theorem lw_p119 : lw_okq (⟨"IndexedCompilerModel", "isTold", "(II)Z"⟩, 145) := ⟨⟨by decide +kernel, by decide +kernel⟩, List.mem_of_getElem? (i := 1572) (by decide +kernel), List.mem_of_getElem? (i := 2092) (by decide +kernel), List.mem_of_getElem? (i := 2093) (by decide +kernel)⟩
theorem lw_p120 : lw_okq (⟨"IndexedCompilerModel", "tellSame", "(I)V"⟩, 145) := ⟨⟨by decide +kernel, by decide +kernel⟩, List.mem_of_getElem? (i := 1572) (by decide +kernel), List.mem_of_getElem? (i := 2096) (by decide +kernel), List.mem_of_getElem? (i := 2097) (by decide +kernel)⟩
theorem lw_p121 : lw_okq (⟨"IndexedCompilerModel", "readProps", "()I"⟩, 145) := ⟨⟨by decide +kernel, by decide +kernel⟩, List.mem_of_getElem? (i := 1572) (by decide +kernel), List.mem_of_getElem? (i := 2100) (by decide +kernel), List.mem_of_getElem? (i := 2101) (by decide +kernel)⟩
theorem lw_p122 : lw_okq (⟨"IndexedCompilerModel", "readIndex", "()I"⟩, 145) := ⟨⟨by decide +kernel, by decide +kernel⟩, List.mem_of_getElem? (i := 1572) (by decide +kernel), List.mem_of_getElem? (i := 2104) (by decide +kernel), List.mem_of_getElem? (i := 2105) (by decide +kernel)⟩
theorem lw_p123 : lw_okq (⟨"IndexedCompilerModel", "readTerm", "(I)V"⟩, 145) := ⟨⟨by decide +kernel, by decide +kernel⟩, List.mem_of_getElem? (i := 1572) (by decide +kernel), List.mem_of_getElem? (i := 2108) (by decide +kernel), List.mem_of_getElem? (i := 2109) (by decide +kernel)⟩
theorem lw_p124 : lw_okq (⟨"IndexedCompilerModel", "addTerm", "(II)V"⟩, 145) := ⟨⟨by decide +kernel, by decide +kernel⟩, List.mem_of_getElem? (i := 1572) (by decide +kernel), List.mem_of_getElem? (i := 2112) (by decide +kernel), List.mem_of_getElem? (i := 2113) (by decide +kernel)⟩
theorem lw_p125 : lw_okq (⟨"IndexedCompilerModel", "wantRelation", "()I"⟩, 145) := ⟨⟨by decide +kernel, by decide +kernel⟩, List.mem_of_getElem? (i := 1572) (by decide +kernel), List.mem_of_getElem? (i := 2116) (by decide +kernel), List.mem_of_getElem? (i := 2117) (by decide +kernel)⟩
theorem lw_p126 : lw_okq (⟨"IndexedCompilerModel", "wantMark", "(I)V"⟩, 145) := ⟨⟨by decide +kernel, by decide +kernel⟩, List.mem_of_getElem? (i := 1572) (by decide +kernel), List.mem_of_getElem? (i := 2120) (by decide +kernel), List.mem_of_getElem? (i := 2121) (by decide +kernel)⟩
theorem lw_p127 : lw_okq (⟨"IndexedCompilerModel", "readParams", "(I)V"⟩, 145) := ⟨⟨by decide +kernel, by decide +kernel⟩, List.mem_of_getElem? (i := 1572) (by decide +kernel), List.mem_of_getElem? (i := 2124) (by decide +kernel), List.mem_of_getElem? (i := 2125) (by decide +kernel)⟩
def lw_privs_8 : List (MethodName × Nat) := [(⟨"IndexedCompilerModel", "wantWord", "(I)V"⟩, 145), (⟨"IndexedCompilerModel", "isWordHere", "(I)Z"⟩, 145), (⟨"IndexedCompilerModel", "wrong", "()V"⟩, 145), (⟨"IndexedCompilerModel", "wantName", "()I"⟩, 145), (⟨"IndexedCompilerModel", "isNameHere", "()Z"⟩, 145), (⟨"IndexedCompilerModel", "isMarkHere", "(I)Z"⟩, 145), (⟨"IndexedCompilerModel", "readIndexNames", "(I)V"⟩, 145), (⟨"IndexedCompilerModel", "isTold", "(II)Z"⟩, 145), (⟨"IndexedCompilerModel", "tellSame", "(I)V"⟩, 145), (⟨"IndexedCompilerModel", "readProps", "()I"⟩, 145), (⟨"IndexedCompilerModel", "readIndex", "()I"⟩, 145), (⟨"IndexedCompilerModel", "readTerm", "(I)V"⟩, 145), (⟨"IndexedCompilerModel", "addTerm", "(II)V"⟩, 145), (⟨"IndexedCompilerModel", "wantRelation", "()I"⟩, 145), (⟨"IndexedCompilerModel", "wantMark", "(I)V"⟩, 145), (⟨"IndexedCompilerModel", "readParams", "(I)V"⟩, 145)]
theorem lw_r8 : ∀ q ∈ lw_privs_8, lw_okq q := List.forall_mem_cons.mpr ⟨lw_p112, List.forall_mem_cons.mpr ⟨lw_p113, List.forall_mem_cons.mpr ⟨lw_p114, List.forall_mem_cons.mpr ⟨lw_p115, List.forall_mem_cons.mpr ⟨lw_p116, List.forall_mem_cons.mpr ⟨lw_p117, List.forall_mem_cons.mpr ⟨lw_p118, List.forall_mem_cons.mpr ⟨lw_p119, List.forall_mem_cons.mpr ⟨lw_p120, List.forall_mem_cons.mpr ⟨lw_p121, List.forall_mem_cons.mpr ⟨lw_p122, List.forall_mem_cons.mpr ⟨lw_p123, List.forall_mem_cons.mpr ⟨lw_p124, List.forall_mem_cons.mpr ⟨lw_p125, List.forall_mem_cons.mpr ⟨lw_p126, List.forall_mem_cons.mpr ⟨lw_p127, fun _ h => absurd h List.not_mem_nil⟩⟩⟩⟩⟩⟩⟩⟩⟩⟩⟩⟩⟩⟩⟩⟩
theorem lw_p128 : lw_okq (⟨"IndexedCompilerModel", "readType", "()I"⟩, 145) := ⟨⟨by decide +kernel, by decide +kernel⟩, List.mem_of_getElem? (i := 1572) (by decide +kernel), List.mem_of_getElem? (i := 2128) (by decide +kernel), List.mem_of_getElem? (i := 2129) (by decide +kernel)⟩
theorem lw_p129 : lw_okq (⟨"IndexedCompilerModel", "readSteps", "()I"⟩, 145) := ⟨⟨by decide +kernel, by decide +kernel⟩, List.mem_of_getElem? (i := 1572) (by decide +kernel), List.mem_of_getElem? (i := 2132) (by decide +kernel), List.mem_of_getElem? (i := 2133) (by decide +kernel)⟩
theorem lw_p130 : lw_okq (⟨"IndexedCompilerModel", "enter", "(II)V"⟩, 145) := ⟨⟨by decide +kernel, by decide +kernel⟩, List.mem_of_getElem? (i := 1572) (by decide +kernel), List.mem_of_getElem? (i := 2136) (by decide +kernel), List.mem_of_getElem? (i := 2137) (by decide +kernel)⟩
theorem lw_p131 : lw_okq (⟨"IndexedCompilerModel", "goSteps", "(I)V"⟩, 145) := ⟨⟨by decide +kernel, by decide +kernel⟩, List.mem_of_getElem? (i := 1572) (by decide +kernel), List.mem_of_getElem? (i := 2140) (by decide +kernel), List.mem_of_getElem? (i := 2141) (by decide +kernel)⟩
theorem lw_p132 : lw_okq (⟨"IndexedCompilerModel", "newNode", "(IIIII)I"⟩, 145) := ⟨⟨by decide +kernel, by decide +kernel⟩, List.mem_of_getElem? (i := 1572) (by decide +kernel), List.mem_of_getElem? (i := 2144) (by decide +kernel), List.mem_of_getElem? (i := 2145) (by decide +kernel)⟩
theorem lw_p133 : lw_okq (⟨"IndexedCompilerModel", "give", "(I)V"⟩, 145) := ⟨⟨by decide +kernel, by decide +kernel⟩, List.mem_of_getElem? (i := 1572) (by decide +kernel), List.mem_of_getElem? (i := 2148) (by decide +kernel), List.mem_of_getElem? (i := 2149) (by decide +kernel)⟩
theorem lw_p134 : lw_okq (⟨"IndexedCompilerModel", "goStep", "(I)V"⟩, 145) := ⟨⟨by decide +kernel, by decide +kernel⟩, List.mem_of_getElem? (i := 1572) (by decide +kernel), List.mem_of_getElem? (i := 2152) (by decide +kernel), List.mem_of_getElem? (i := 2153) (by decide +kernel)⟩
theorem lw_p135 : lw_okq (⟨"IndexedCompilerModel", "goSum", "(I)V"⟩, 145) := ⟨⟨by decide +kernel, by decide +kernel⟩, List.mem_of_getElem? (i := 1572) (by decide +kernel), List.mem_of_getElem? (i := 2156) (by decide +kernel), List.mem_of_getElem? (i := 2157) (by decide +kernel)⟩
theorem lw_p136 : lw_okq (⟨"IndexedCompilerModel", "goProduct", "(I)V"⟩, 145) := ⟨⟨by decide +kernel, by decide +kernel⟩, List.mem_of_getElem? (i := 1572) (by decide +kernel), List.mem_of_getElem? (i := 2160) (by decide +kernel), List.mem_of_getElem? (i := 2161) (by decide +kernel)⟩
theorem lw_p137 : lw_okq (⟨"IndexedCompilerModel", "goPart", "(I)V"⟩, 145) := ⟨⟨by decide +kernel, by decide +kernel⟩, List.mem_of_getElem? (i := 1572) (by decide +kernel), List.mem_of_getElem? (i := 2164) (by decide +kernel), List.mem_of_getElem? (i := 2165) (by decide +kernel)⟩
theorem lw_p138 : lw_okq (⟨"IndexedCompilerModel", "beginPart", "(I)V"⟩, 145) := ⟨⟨by decide +kernel, by decide +kernel⟩, List.mem_of_getElem? (i := 1572) (by decide +kernel), List.mem_of_getElem? (i := 2168) (by decide +kernel), List.mem_of_getElem? (i := 2169) (by decide +kernel)⟩
theorem lw_p139 : lw_okq (⟨"IndexedCompilerModel", "beginName", "(I)V"⟩, 145) := ⟨⟨by decide +kernel, by decide +kernel⟩, List.mem_of_getElem? (i := 1572) (by decide +kernel), List.mem_of_getElem? (i := 2172) (by decide +kernel), List.mem_of_getElem? (i := 2173) (by decide +kernel)⟩
theorem lw_p140 : lw_okq (⟨"IndexedCompilerModel", "readCallIndexes", "(I)V"⟩, 145) := ⟨⟨by decide +kernel, by decide +kernel⟩, List.mem_of_getElem? (i := 1572) (by decide +kernel), List.mem_of_getElem? (i := 2176) (by decide +kernel), List.mem_of_getElem? (i := 2177) (by decide +kernel)⟩
theorem lw_p141 : lw_okq (⟨"IndexedCompilerModel", "endCall", "(I)V"⟩, 145) := ⟨⟨by decide +kernel, by decide +kernel⟩, List.mem_of_getElem? (i := 1572) (by decide +kernel), List.mem_of_getElem? (i := 2180) (by decide +kernel), List.mem_of_getElem? (i := 2181) (by decide +kernel)⟩
theorem lw_p142 : lw_okq (⟨"IndexedCompilerModel", "uncheck", "()V"⟩, 145) := ⟨⟨by decide +kernel, by decide +kernel⟩, List.mem_of_getElem? (i := 1572) (by decide +kernel), List.mem_of_getElem? (i := 2184) (by decide +kernel), List.mem_of_getElem? (i := 2185) (by decide +kernel)⟩
theorem lw_p143 : lw_okq (⟨"IndexedCompilerModel", "begin", "(I)V"⟩, 145) := ⟨⟨by decide +kernel, by decide +kernel⟩, List.mem_of_getElem? (i := 1572) (by decide +kernel), List.mem_of_getElem? (i := 2200) (by decide +kernel), List.mem_of_getElem? (i := 2201) (by decide +kernel)⟩
def lw_privs_9 : List (MethodName × Nat) := [(⟨"IndexedCompilerModel", "readType", "()I"⟩, 145), (⟨"IndexedCompilerModel", "readSteps", "()I"⟩, 145), (⟨"IndexedCompilerModel", "enter", "(II)V"⟩, 145), (⟨"IndexedCompilerModel", "goSteps", "(I)V"⟩, 145), (⟨"IndexedCompilerModel", "newNode", "(IIIII)I"⟩, 145), (⟨"IndexedCompilerModel", "give", "(I)V"⟩, 145), (⟨"IndexedCompilerModel", "goStep", "(I)V"⟩, 145), (⟨"IndexedCompilerModel", "goSum", "(I)V"⟩, 145), (⟨"IndexedCompilerModel", "goProduct", "(I)V"⟩, 145), (⟨"IndexedCompilerModel", "goPart", "(I)V"⟩, 145), (⟨"IndexedCompilerModel", "beginPart", "(I)V"⟩, 145), (⟨"IndexedCompilerModel", "beginName", "(I)V"⟩, 145), (⟨"IndexedCompilerModel", "readCallIndexes", "(I)V"⟩, 145), (⟨"IndexedCompilerModel", "endCall", "(I)V"⟩, 145), (⟨"IndexedCompilerModel", "uncheck", "()V"⟩, 145), (⟨"IndexedCompilerModel", "begin", "(I)V"⟩, 145)]
theorem lw_r9 : ∀ q ∈ lw_privs_9, lw_okq q := List.forall_mem_cons.mpr ⟨lw_p128, List.forall_mem_cons.mpr ⟨lw_p129, List.forall_mem_cons.mpr ⟨lw_p130, List.forall_mem_cons.mpr ⟨lw_p131, List.forall_mem_cons.mpr ⟨lw_p132, List.forall_mem_cons.mpr ⟨lw_p133, List.forall_mem_cons.mpr ⟨lw_p134, List.forall_mem_cons.mpr ⟨lw_p135, List.forall_mem_cons.mpr ⟨lw_p136, List.forall_mem_cons.mpr ⟨lw_p137, List.forall_mem_cons.mpr ⟨lw_p138, List.forall_mem_cons.mpr ⟨lw_p139, List.forall_mem_cons.mpr ⟨lw_p140, List.forall_mem_cons.mpr ⟨lw_p141, List.forall_mem_cons.mpr ⟨lw_p142, List.forall_mem_cons.mpr ⟨lw_p143, fun _ h => absurd h List.not_mem_nil⟩⟩⟩⟩⟩⟩⟩⟩⟩⟩⟩⟩⟩⟩⟩⟩
theorem lw_p144 : lw_okq (⟨"IndexedCompilerModel", "newVariable", "(I)I"⟩, 145) := ⟨⟨by decide +kernel, by decide +kernel⟩, List.mem_of_getElem? (i := 1572) (by decide +kernel), List.mem_of_getElem? (i := 2204) (by decide +kernel), List.mem_of_getElem? (i := 2205) (by decide +kernel)⟩
theorem lw_p145 : lw_okq (⟨"IndexedCompilerModel", "stop", "(II)V"⟩, 145) := ⟨⟨by decide +kernel, by decide +kernel⟩, List.mem_of_getElem? (i := 1572) (by decide +kernel), List.mem_of_getElem? (i := 2208) (by decide +kernel), List.mem_of_getElem? (i := 2209) (by decide +kernel)⟩
theorem lw_p146 : lw_okq (⟨"IndexedCompilerModel", "nameIndex", "(II)V"⟩, 145) := ⟨⟨by decide +kernel, by decide +kernel⟩, List.mem_of_getElem? (i := 1572) (by decide +kernel), List.mem_of_getElem? (i := 2212) (by decide +kernel), List.mem_of_getElem? (i := 2213) (by decide +kernel)⟩
theorem lw_p147 : lw_okq (⟨"IndexedCompilerModel", "goThroughProps", "(IIII)V"⟩, 145) := ⟨⟨by decide +kernel, by decide +kernel⟩, List.mem_of_getElem? (i := 1572) (by decide +kernel), List.mem_of_getElem? (i := 2216) (by decide +kernel), List.mem_of_getElem? (i := 2217) (by decide +kernel)⟩
theorem lw_p148 : lw_okq (⟨"IndexedCompilerModel", "workIndex", "(I[J)V"⟩, 145) := ⟨⟨by decide +kernel, by decide +kernel⟩, List.mem_of_getElem? (i := 1572) (by decide +kernel), List.mem_of_getElem? (i := 2220) (by decide +kernel), List.mem_of_getElem? (i := 2221) (by decide +kernel)⟩
theorem lw_p149 : lw_okq (⟨"IndexedCompilerModel", "findName", "(IZ)I"⟩, 145) := ⟨⟨by decide +kernel, by decide +kernel⟩, List.mem_of_getElem? (i := 1572) (by decide +kernel), List.mem_of_getElem? (i := 2224) (by decide +kernel), List.mem_of_getElem? (i := 2225) (by decide +kernel)⟩
theorem lw_p150 : lw_okq (⟨"IndexedCompilerModel", "addTimes", "([JJ[JI)V"⟩, 145) := ⟨⟨by decide +kernel, by decide +kernel⟩, List.mem_of_getElem? (i := 1572) (by decide +kernel), List.mem_of_getElem? (i := 2228) (by decide +kernel), List.mem_of_getElem? (i := 2229) (by decide +kernel)⟩
theorem lw_p151 : lw_okq (⟨"IndexedCompilerModel", "proposition", "(II[JI[JI[J)Z"⟩, 145) := ⟨⟨by decide +kernel, by decide +kernel⟩, List.mem_of_getElem? (i := 1572) (by decide +kernel), List.mem_of_getElem? (i := 2237) (by decide +kernel), List.mem_of_getElem? (i := 2238) (by decide +kernel)⟩
theorem lw_p152 : lw_okq (⟨"IndexedCompilerModel", "addFact", "([JII)V"⟩, 145) := ⟨⟨by decide +kernel, by decide +kernel⟩, List.mem_of_getElem? (i := 1572) (by decide +kernel), List.mem_of_getElem? (i := 2241) (by decide +kernel), List.mem_of_getElem? (i := 2242) (by decide +kernel)⟩
theorem lw_p153 : lw_okq (⟨"IndexedCompilerModel", "addGoal", "(II)V"⟩, 145) := ⟨⟨by decide +kernel, by decide +kernel⟩, List.mem_of_getElem? (i := 1572) (by decide +kernel), List.mem_of_getElem? (i := 2245) (by decide +kernel), List.mem_of_getElem? (i := 2246) (by decide +kernel)⟩
theorem lw_p154 : lw_okq (⟨"IndexedCompilerModel", "isProved", "([JI)Z"⟩, 145) := ⟨⟨by decide +kernel, by decide +kernel⟩, List.mem_of_getElem? (i := 1572) (by decide +kernel), List.mem_of_getElem? (i := 2249) (by decide +kernel), List.mem_of_getElem? (i := 2250) (by decide +kernel)⟩
theorem lw_p155 : lw_okq (⟨"IndexedCompilerModel", "keep", "()Z"⟩, 145) := ⟨⟨by decide +kernel, by decide +kernel⟩, List.mem_of_getElem? (i := 1572) (by decide +kernel), List.mem_of_getElem? (i := 2253) (by decide +kernel), List.mem_of_getElem? (i := 2254) (by decide +kernel)⟩
theorem lw_p156 : lw_okq (⟨"IndexedCompilerModel", "takeFresh", "()V"⟩, 145) := ⟨⟨by decide +kernel, by decide +kernel⟩, List.mem_of_getElem? (i := 1572) (by decide +kernel), List.mem_of_getElem? (i := 2264) (by decide +kernel), List.mem_of_getElem? (i := 2265) (by decide +kernel)⟩
theorem lw_p157 : lw_okq (⟨"IndexedCompilerModel", "without", "(I)Z"⟩, 145) := ⟨⟨by decide +kernel, by decide +kernel⟩, List.mem_of_getElem? (i := 1572) (by decide +kernel), List.mem_of_getElem? (i := 2268) (by decide +kernel), List.mem_of_getElem? (i := 2269) (by decide +kernel)⟩
theorem lw_p158 : lw_okq (⟨"IndexedCompilerModel", "have", "(II)V"⟩, 145) := ⟨⟨by decide +kernel, by decide +kernel⟩, List.mem_of_getElem? (i := 1572) (by decide +kernel), List.mem_of_getElem? (i := 2272) (by decide +kernel), List.mem_of_getElem? (i := 2273) (by decide +kernel)⟩
theorem lw_p159 : lw_okq (⟨"IndexedCompilerModel", "pushVariable", "(IZ)V"⟩, 145) := ⟨⟨by decide +kernel, by decide +kernel⟩, List.mem_of_getElem? (i := 1572) (by decide +kernel), List.mem_of_getElem? (i := 2276) (by decide +kernel), List.mem_of_getElem? (i := 2277) (by decide +kernel)⟩
def lw_privs_10 : List (MethodName × Nat) := [(⟨"IndexedCompilerModel", "newVariable", "(I)I"⟩, 145), (⟨"IndexedCompilerModel", "stop", "(II)V"⟩, 145), (⟨"IndexedCompilerModel", "nameIndex", "(II)V"⟩, 145), (⟨"IndexedCompilerModel", "goThroughProps", "(IIII)V"⟩, 145), (⟨"IndexedCompilerModel", "workIndex", "(I[J)V"⟩, 145), (⟨"IndexedCompilerModel", "findName", "(IZ)I"⟩, 145), (⟨"IndexedCompilerModel", "addTimes", "([JJ[JI)V"⟩, 145), (⟨"IndexedCompilerModel", "proposition", "(II[JI[JI[J)Z"⟩, 145), (⟨"IndexedCompilerModel", "addFact", "([JII)V"⟩, 145), (⟨"IndexedCompilerModel", "addGoal", "(II)V"⟩, 145), (⟨"IndexedCompilerModel", "isProved", "([JI)Z"⟩, 145), (⟨"IndexedCompilerModel", "keep", "()Z"⟩, 145), (⟨"IndexedCompilerModel", "takeFresh", "()V"⟩, 145), (⟨"IndexedCompilerModel", "without", "(I)Z"⟩, 145), (⟨"IndexedCompilerModel", "have", "(II)V"⟩, 145), (⟨"IndexedCompilerModel", "pushVariable", "(IZ)V"⟩, 145)]
theorem lw_r10 : ∀ q ∈ lw_privs_10, lw_okq q := List.forall_mem_cons.mpr ⟨lw_p144, List.forall_mem_cons.mpr ⟨lw_p145, List.forall_mem_cons.mpr ⟨lw_p146, List.forall_mem_cons.mpr ⟨lw_p147, List.forall_mem_cons.mpr ⟨lw_p148, List.forall_mem_cons.mpr ⟨lw_p149, List.forall_mem_cons.mpr ⟨lw_p150, List.forall_mem_cons.mpr ⟨lw_p151, List.forall_mem_cons.mpr ⟨lw_p152, List.forall_mem_cons.mpr ⟨lw_p153, List.forall_mem_cons.mpr ⟨lw_p154, List.forall_mem_cons.mpr ⟨lw_p155, List.forall_mem_cons.mpr ⟨lw_p156, List.forall_mem_cons.mpr ⟨lw_p157, List.forall_mem_cons.mpr ⟨lw_p158, List.forall_mem_cons.mpr ⟨lw_p159, fun _ h => absurd h List.not_mem_nil⟩⟩⟩⟩⟩⟩⟩⟩⟩⟩⟩⟩⟩⟩⟩⟩
theorem lw_p160 : lw_okq (⟨"IndexedCompilerModel", "pushValue", "(Z)V"⟩, 145) := ⟨⟨by decide +kernel, by decide +kernel⟩, List.mem_of_getElem? (i := 1572) (by decide +kernel), List.mem_of_getElem? (i := 2280) (by decide +kernel), List.mem_of_getElem? (i := 2281) (by decide +kernel)⟩
theorem lw_p161 : lw_okq (⟨"IndexedCompilerModel", "pushCopy", "([JIZ)V"⟩, 145) := ⟨⟨by decide +kernel, by decide +kernel⟩, List.mem_of_getElem? (i := 1572) (by decide +kernel), List.mem_of_getElem? (i := 2284) (by decide +kernel), List.mem_of_getElem? (i := 2285) (by decide +kernel)⟩
theorem lw_p162 : lw_okq (⟨"IndexedCompilerModel", "name", "(I)V"⟩, 145) := ⟨⟨by decide +kernel, by decide +kernel⟩, List.mem_of_getElem? (i := 1572) (by decide +kernel), List.mem_of_getElem? (i := 2288) (by decide +kernel), List.mem_of_getElem? (i := 2289) (by decide +kernel)⟩
theorem lw_p163 : lw_okq (⟨"IndexedCompilerModel", "lookType", "(I)V"⟩, 145) := ⟨⟨by decide +kernel, by decide +kernel⟩, List.mem_of_getElem? (i := 1572) (by decide +kernel), List.mem_of_getElem? (i := 2292) (by decide +kernel), List.mem_of_getElem? (i := 2293) (by decide +kernel)⟩
theorem lw_p164 : lw_okq (⟨"IndexedCompilerModel", "goOver", "(III)V"⟩, 145) := ⟨⟨by decide +kernel, by decide +kernel⟩, List.mem_of_getElem? (i := 1572) (by decide +kernel), List.mem_of_getElem? (i := 2296) (by decide +kernel), List.mem_of_getElem? (i := 2297) (by decide +kernel)⟩
theorem lw_p165 : lw_okq (⟨"IndexedCompilerModel", "enterNode", "(III)V"⟩, 145) := ⟨⟨by decide +kernel, by decide +kernel⟩, List.mem_of_getElem? (i := 1572) (by decide +kernel), List.mem_of_getElem? (i := 2300) (by decide +kernel), List.mem_of_getElem? (i := 2301) (by decide +kernel)⟩
theorem lw_p166 : lw_okq (⟨"IndexedCompilerModel", "goNode", "(II)V"⟩, 145) := ⟨⟨by decide +kernel, by decide +kernel⟩, List.mem_of_getElem? (i := 1572) (by decide +kernel), List.mem_of_getElem? (i := 2304) (by decide +kernel), List.mem_of_getElem? (i := 2305) (by decide +kernel)⟩
theorem lw_p167 : lw_okq (⟨"IndexedCompilerModel", "lookPlain", "(II)V"⟩, 145) := ⟨⟨by decide +kernel, by decide +kernel⟩, List.mem_of_getElem? (i := 1572) (by decide +kernel), List.mem_of_getElem? (i := 2308) (by decide +kernel), List.mem_of_getElem? (i := 2309) (by decide +kernel)⟩
theorem lw_p168 : lw_okq (⟨"IndexedCompilerModel", "lookValue", "(II)V"⟩, 145) := ⟨⟨by decide +kernel, by decide +kernel⟩, List.mem_of_getElem? (i := 1572) (by decide +kernel), List.mem_of_getElem? (i := 2312) (by decide +kernel), List.mem_of_getElem? (i := 2313) (by decide +kernel)⟩
theorem lw_p169 : lw_okq (⟨"IndexedCompilerModel", "wantKind", "(IZ)V"⟩, 145) := ⟨⟨by decide +kernel, by decide +kernel⟩, List.mem_of_getElem? (i := 1572) (by decide +kernel), List.mem_of_getElem? (i := 2316) (by decide +kernel), List.mem_of_getElem? (i := 2317) (by decide +kernel)⟩
theorem lw_p170 : lw_okq (⟨"IndexedCompilerModel", "goalsOfType", "(IIII)V"⟩, 145) := ⟨⟨by decide +kernel, by decide +kernel⟩, List.mem_of_getElem? (i := 1572) (by decide +kernel), List.mem_of_getElem? (i := 2320) (by decide +kernel), List.mem_of_getElem? (i := 2321) (by decide +kernel)⟩
theorem lw_p171 : lw_okq (⟨"IndexedCompilerModel", "leave", "()V"⟩, 145) := ⟨⟨by decide +kernel, by decide +kernel⟩, List.mem_of_getElem? (i := 1572) (by decide +kernel), List.mem_of_getElem? (i := 2324) (by decide +kernel), List.mem_of_getElem? (i := 2325) (by decide +kernel)⟩
theorem lw_p172 : lw_okq (⟨"IndexedCompilerModel", "goVar", "(I)V"⟩, 145) := ⟨⟨by decide +kernel, by decide +kernel⟩, List.mem_of_getElem? (i := 1572) (by decide +kernel), List.mem_of_getElem? (i := 2328) (by decide +kernel), List.mem_of_getElem? (i := 2329) (by decide +kernel)⟩
theorem lw_p173 : lw_okq (⟨"IndexedCompilerModel", "goAccess", "(II)V"⟩, 145) := ⟨⟨by decide +kernel, by decide +kernel⟩, List.mem_of_getElem? (i := 1572) (by decide +kernel), List.mem_of_getElem? (i := 2332) (by decide +kernel), List.mem_of_getElem? (i := 2333) (by decide +kernel)⟩
theorem lw_p174 : lw_okq (⟨"IndexedCompilerModel", "wantRow", "(I)I"⟩, 145) := ⟨⟨by decide +kernel, by decide +kernel⟩, List.mem_of_getElem? (i := 1572) (by decide +kernel), List.mem_of_getElem? (i := 2336) (by decide +kernel), List.mem_of_getElem? (i := 2337) (by decide +kernel)⟩
theorem lw_p175 : lw_okq (⟨"IndexedCompilerModel", "nodeAtName", "(I)I"⟩, 145) := ⟨⟨by decide +kernel, by decide +kernel⟩, List.mem_of_getElem? (i := 1572) (by decide +kernel), List.mem_of_getElem? (i := 2340) (by decide +kernel), List.mem_of_getElem? (i := 2341) (by decide +kernel)⟩
def lw_privs_11 : List (MethodName × Nat) := [(⟨"IndexedCompilerModel", "pushValue", "(Z)V"⟩, 145), (⟨"IndexedCompilerModel", "pushCopy", "([JIZ)V"⟩, 145), (⟨"IndexedCompilerModel", "name", "(I)V"⟩, 145), (⟨"IndexedCompilerModel", "lookType", "(I)V"⟩, 145), (⟨"IndexedCompilerModel", "goOver", "(III)V"⟩, 145), (⟨"IndexedCompilerModel", "enterNode", "(III)V"⟩, 145), (⟨"IndexedCompilerModel", "goNode", "(II)V"⟩, 145), (⟨"IndexedCompilerModel", "lookPlain", "(II)V"⟩, 145), (⟨"IndexedCompilerModel", "lookValue", "(II)V"⟩, 145), (⟨"IndexedCompilerModel", "wantKind", "(IZ)V"⟩, 145), (⟨"IndexedCompilerModel", "goalsOfType", "(IIII)V"⟩, 145), (⟨"IndexedCompilerModel", "leave", "()V"⟩, 145), (⟨"IndexedCompilerModel", "goVar", "(I)V"⟩, 145), (⟨"IndexedCompilerModel", "goAccess", "(II)V"⟩, 145), (⟨"IndexedCompilerModel", "wantRow", "(I)I"⟩, 145), (⟨"IndexedCompilerModel", "nodeAtName", "(I)I"⟩, 145)]
theorem lw_r11 : ∀ q ∈ lw_privs_11, lw_okq q := List.forall_mem_cons.mpr ⟨lw_p160, List.forall_mem_cons.mpr ⟨lw_p161, List.forall_mem_cons.mpr ⟨lw_p162, List.forall_mem_cons.mpr ⟨lw_p163, List.forall_mem_cons.mpr ⟨lw_p164, List.forall_mem_cons.mpr ⟨lw_p165, List.forall_mem_cons.mpr ⟨lw_p166, List.forall_mem_cons.mpr ⟨lw_p167, List.forall_mem_cons.mpr ⟨lw_p168, List.forall_mem_cons.mpr ⟨lw_p169, List.forall_mem_cons.mpr ⟨lw_p170, List.forall_mem_cons.mpr ⟨lw_p171, List.forall_mem_cons.mpr ⟨lw_p172, List.forall_mem_cons.mpr ⟨lw_p173, List.forall_mem_cons.mpr ⟨lw_p174, List.forall_mem_cons.mpr ⟨lw_p175, fun _ h => absurd h List.not_mem_nil⟩⟩⟩⟩⟩⟩⟩⟩⟩⟩⟩⟩⟩⟩⟩⟩
theorem lw_p176 : lw_okq (⟨"IndexedCompilerModel", "endAccess", "(IIZ)V"⟩, 145) := ⟨⟨by decide +kernel, by decide +kernel⟩, List.mem_of_getElem? (i := 1572) (by decide +kernel), List.mem_of_getElem? (i := 2344) (by decide +kernel), List.mem_of_getElem? (i := 2345) (by decide +kernel)⟩
theorem lw_p177 : lw_okq (⟨"IndexedCompilerModel", "lift", "(I)V"⟩, 145) := ⟨⟨by decide +kernel, by decide +kernel⟩, List.mem_of_getElem? (i := 1572) (by decide +kernel), List.mem_of_getElem? (i := 2348) (by decide +kernel), List.mem_of_getElem? (i := 2349) (by decide +kernel)⟩
theorem lw_p178 : lw_okq (⟨"IndexedCompilerModel", "goCall", "(II)V"⟩, 145) := ⟨⟨by decide +kernel, by decide +kernel⟩, List.mem_of_getElem? (i := 1572) (by decide +kernel), List.mem_of_getElem? (i := 2352) (by decide +kernel), List.mem_of_getElem? (i := 2353) (by decide +kernel)⟩
theorem lw_p179 : lw_okq (⟨"IndexedCompilerModel", "beginCall", "(II)V"⟩, 145) := ⟨⟨by decide +kernel, by decide +kernel⟩, List.mem_of_getElem? (i := 1572) (by decide +kernel), List.mem_of_getElem? (i := 2356) (by decide +kernel), List.mem_of_getElem? (i := 2357) (by decide +kernel)⟩
theorem lw_p180 : lw_okq (⟨"IndexedCompilerModel", "findFunction", "(I)I"⟩, 145) := ⟨⟨by decide +kernel, by decide +kernel⟩, List.mem_of_getElem? (i := 1572) (by decide +kernel), List.mem_of_getElem? (i := 2360) (by decide +kernel), List.mem_of_getElem? (i := 2361) (by decide +kernel)⟩
theorem lw_p181 : lw_okq (⟨"IndexedCompilerModel", "endCallOf", "(II)V"⟩, 145) := ⟨⟨by decide +kernel, by decide +kernel⟩, List.mem_of_getElem? (i := 1572) (by decide +kernel), List.mem_of_getElem? (i := 2364) (by decide +kernel), List.mem_of_getElem? (i := 2365) (by decide +kernel)⟩
theorem lw_p182 : lw_okq (⟨"IndexedCompilerModel", "goOne", "(II)V"⟩, 145) := ⟨⟨by decide +kernel, by decide +kernel⟩, List.mem_of_getElem? (i := 1572) (by decide +kernel), List.mem_of_getElem? (i := 2368) (by decide +kernel), List.mem_of_getElem? (i := 2369) (by decide +kernel)⟩
theorem lw_p183 : lw_okq (⟨"IndexedCompilerModel", "goTwo", "(II)V"⟩, 145) := ⟨⟨by decide +kernel, by decide +kernel⟩, List.mem_of_getElem? (i := 1572) (by decide +kernel), List.mem_of_getElem? (i := 2372) (by decide +kernel), List.mem_of_getElem? (i := 2373) (by decide +kernel)⟩
theorem lw_p184 : lw_okq (⟨"IndexedCompilerModel", "goDivide", "(II)V"⟩, 145) := ⟨⟨by decide +kernel, by decide +kernel⟩, List.mem_of_getElem? (i := 1572) (by decide +kernel), List.mem_of_getElem? (i := 2380) (by decide +kernel), List.mem_of_getElem? (i := 2381) (by decide +kernel)⟩
theorem lw_p185 : lw_okq (⟨"IndexedCompilerModel", "goSequence", "(II)V"⟩, 145) := ⟨⟨by decide +kernel, by decide +kernel⟩, List.mem_of_getElem? (i := 1572) (by decide +kernel), List.mem_of_getElem? (i := 2384) (by decide +kernel), List.mem_of_getElem? (i := 2385) (by decide +kernel)⟩
theorem lw_p186 : lw_okq (⟨"IndexedCompilerModel", "goLet", "(II)V"⟩, 145) := ⟨⟨by decide +kernel, by decide +kernel⟩, List.mem_of_getElem? (i := 1572) (by decide +kernel), List.mem_of_getElem? (i := 2388) (by decide +kernel), List.mem_of_getElem? (i := 2389) (by decide +kernel)⟩
theorem lw_p187 : lw_okq (⟨"IndexedCompilerModel", "goIf", "(II)V"⟩, 145) := ⟨⟨by decide +kernel, by decide +kernel⟩, List.mem_of_getElem? (i := 1572) (by decide +kernel), List.mem_of_getElem? (i := 2392) (by decide +kernel), List.mem_of_getElem? (i := 2393) (by decide +kernel)⟩
theorem lw_p188 : lw_okq (⟨"IndexedCompilerModel", "relationFacts", "(III)V"⟩, 145) := ⟨⟨by decide +kernel, by decide +kernel⟩, List.mem_of_getElem? (i := 1572) (by decide +kernel), List.mem_of_getElem? (i := 2396) (by decide +kernel), List.mem_of_getElem? (i := 2397) (by decide +kernel)⟩
theorem lw_p189 : lw_okq (⟨"IndexedCompilerModel", "endIf", "(II)V"⟩, 145) := ⟨⟨by decide +kernel, by decide +kernel⟩, List.mem_of_getElem? (i := 1572) (by decide +kernel), List.mem_of_getElem? (i := 2403) (by decide +kernel), List.mem_of_getElem? (i := 2404) (by decide +kernel)⟩
theorem lw_p190 : lw_okq (⟨"IndexedCompilerModel", "goTyped", "(II)V"⟩, 145) := ⟨⟨by decide +kernel, by decide +kernel⟩, List.mem_of_getElem? (i := 1572) (by decide +kernel), List.mem_of_getElem? (i := 2407) (by decide +kernel), List.mem_of_getElem? (i := 2408) (by decide +kernel)⟩
theorem lw_p191 : lw_okq (⟨"IndexedCompilerModel", "compile", "(I)V"⟩, 145) := ⟨⟨by decide +kernel, by decide +kernel⟩, List.mem_of_getElem? (i := 1572) (by decide +kernel), List.mem_of_getElem? (i := 2411) (by decide +kernel), List.mem_of_getElem? (i := 2412) (by decide +kernel)⟩
def lw_privs_12 : List (MethodName × Nat) := [(⟨"IndexedCompilerModel", "endAccess", "(IIZ)V"⟩, 145), (⟨"IndexedCompilerModel", "lift", "(I)V"⟩, 145), (⟨"IndexedCompilerModel", "goCall", "(II)V"⟩, 145), (⟨"IndexedCompilerModel", "beginCall", "(II)V"⟩, 145), (⟨"IndexedCompilerModel", "findFunction", "(I)I"⟩, 145), (⟨"IndexedCompilerModel", "endCallOf", "(II)V"⟩, 145), (⟨"IndexedCompilerModel", "goOne", "(II)V"⟩, 145), (⟨"IndexedCompilerModel", "goTwo", "(II)V"⟩, 145), (⟨"IndexedCompilerModel", "goDivide", "(II)V"⟩, 145), (⟨"IndexedCompilerModel", "goSequence", "(II)V"⟩, 145), (⟨"IndexedCompilerModel", "goLet", "(II)V"⟩, 145), (⟨"IndexedCompilerModel", "goIf", "(II)V"⟩, 145), (⟨"IndexedCompilerModel", "relationFacts", "(III)V"⟩, 145), (⟨"IndexedCompilerModel", "endIf", "(II)V"⟩, 145), (⟨"IndexedCompilerModel", "goTyped", "(II)V"⟩, 145), (⟨"IndexedCompilerModel", "compile", "(I)V"⟩, 145)]
theorem lw_r12 : ∀ q ∈ lw_privs_12, lw_okq q := List.forall_mem_cons.mpr ⟨lw_p176, List.forall_mem_cons.mpr ⟨lw_p177, List.forall_mem_cons.mpr ⟨lw_p178, List.forall_mem_cons.mpr ⟨lw_p179, List.forall_mem_cons.mpr ⟨lw_p180, List.forall_mem_cons.mpr ⟨lw_p181, List.forall_mem_cons.mpr ⟨lw_p182, List.forall_mem_cons.mpr ⟨lw_p183, List.forall_mem_cons.mpr ⟨lw_p184, List.forall_mem_cons.mpr ⟨lw_p185, List.forall_mem_cons.mpr ⟨lw_p186, List.forall_mem_cons.mpr ⟨lw_p187, List.forall_mem_cons.mpr ⟨lw_p188, List.forall_mem_cons.mpr ⟨lw_p189, List.forall_mem_cons.mpr ⟨lw_p190, List.forall_mem_cons.mpr ⟨lw_p191, fun _ h => absurd h List.not_mem_nil⟩⟩⟩⟩⟩⟩⟩⟩⟩⟩⟩⟩⟩⟩⟩⟩
theorem lw_p192 : lw_okq (⟨"IndexedCompilerModel", "makeNode", "(II)V"⟩, 145) := ⟨⟨by decide +kernel, by decide +kernel⟩, List.mem_of_getElem? (i := 1572) (by decide +kernel), List.mem_of_getElem? (i := 2415) (by decide +kernel), List.mem_of_getElem? (i := 2416) (by decide +kernel)⟩
theorem lw_p193 : lw_okq (⟨"IndexedCompilerModel", "emit", "(II)V"⟩, 145) := ⟨⟨by decide +kernel, by decide +kernel⟩, List.mem_of_getElem? (i := 1572) (by decide +kernel), List.mem_of_getElem? (i := 2419) (by decide +kernel), List.mem_of_getElem? (i := 2420) (by decide +kernel)⟩
theorem lw_p194 : lw_okq (⟨"IndexedCompilerModel", "localOf", "(I)I"⟩, 145) := ⟨⟨by decide +kernel, by decide +kernel⟩, List.mem_of_getElem? (i := 1572) (by decide +kernel), List.mem_of_getElem? (i := 2423) (by decide +kernel), List.mem_of_getElem? (i := 2424) (by decide +kernel)⟩
theorem lw_p195 : lw_okq (⟨"IndexedCompilerModel", "makeAccess", "(II)V"⟩, 145) := ⟨⟨by decide +kernel, by decide +kernel⟩, List.mem_of_getElem? (i := 1572) (by decide +kernel), List.mem_of_getElem? (i := 2427) (by decide +kernel), List.mem_of_getElem? (i := 2428) (by decide +kernel)⟩
theorem lw_p196 : lw_okq (⟨"IndexedCompilerModel", "within", "(III)Z"⟩, 145) := ⟨⟨by decide +kernel, by decide +kernel⟩, List.mem_of_getElem? (i := 1572) (by decide +kernel), List.mem_of_getElem? (i := 2431) (by decide +kernel), List.mem_of_getElem? (i := 2432) (by decide +kernel)⟩
theorem lw_p197 : lw_okq (⟨"IndexedCompilerModel", "makeSequence", "(II)V"⟩, 145) := ⟨⟨by decide +kernel, by decide +kernel⟩, List.mem_of_getElem? (i := 1572) (by decide +kernel), List.mem_of_getElem? (i := 2435) (by decide +kernel), List.mem_of_getElem? (i := 2436) (by decide +kernel)⟩
theorem lw_p198 : lw_okq (⟨"IndexedCompilerModel", "makeLet", "(II)V"⟩, 145) := ⟨⟨by decide +kernel, by decide +kernel⟩, List.mem_of_getElem? (i := 1572) (by decide +kernel), List.mem_of_getElem? (i := 2439) (by decide +kernel), List.mem_of_getElem? (i := 2440) (by decide +kernel)⟩
theorem lw_p199 : lw_okq (⟨"IndexedCompilerModel", "makeIf", "(II)V"⟩, 145) := ⟨⟨by decide +kernel, by decide +kernel⟩, List.mem_of_getElem? (i := 1572) (by decide +kernel), List.mem_of_getElem? (i := 2443) (by decide +kernel), List.mem_of_getElem? (i := 2444) (by decide +kernel)⟩
theorem lw_p200 : lw_okq (⟨"IndexedCompilerModel", "isRunnable", "(I)Z"⟩, 145) := ⟨⟨by decide +kernel, by decide +kernel⟩, List.mem_of_getElem? (i := 1572) (by decide +kernel), List.mem_of_getElem? (i := 2463) (by decide +kernel), List.mem_of_getElem? (i := 2464) (by decide +kernel)⟩
theorem lw_p201 : lw_okq (⟨"IndexedCompilerModel", "codeAt", "(II)I"⟩, 145) := ⟨⟨by decide +kernel, by decide +kernel⟩, List.mem_of_getElem? (i := 1572) (by decide +kernel), List.mem_of_getElem? (i := 2467) (by decide +kernel), List.mem_of_getElem? (i := 2468) (by decide +kernel)⟩
theorem lw_p202 : lw_okq (⟨"IndexedCompilerModel", "hasNumber", "(II)Z"⟩, 145) := ⟨⟨by decide +kernel, by decide +kernel⟩, List.mem_of_getElem? (i := 1572) (by decide +kernel), List.mem_of_getElem? (i := 2490) (by decide +kernel), List.mem_of_getElem? (i := 2491) (by decide +kernel)⟩
theorem lw_p203 : lw_okq (⟨"IndexedCompilerModel", "isFit", "(I)Z"⟩, 145) := ⟨⟨by decide +kernel, by decide +kernel⟩, List.mem_of_getElem? (i := 1572) (by decide +kernel), List.mem_of_getElem? (i := 2508) (by decide +kernel), List.mem_of_getElem? (i := 2509) (by decide +kernel)⟩
theorem lw_p204 : lw_okq (⟨"IndexedCompilerModel", "holdAll", "(IIIIJ)Z"⟩, 145) := ⟨⟨by decide +kernel, by decide +kernel⟩, List.mem_of_getElem? (i := 1572) (by decide +kernel), List.mem_of_getElem? (i := 2512) (by decide +kernel), List.mem_of_getElem? (i := 2513) (by decide +kernel)⟩
theorem lw_p205 : lw_okq (⟨"IndexedCompilerModel", "reckon", "(IIIJ)J"⟩, 145) := ⟨⟨by decide +kernel, by decide +kernel⟩, List.mem_of_getElem? (i := 1572) (by decide +kernel), List.mem_of_getElem? (i := 2516) (by decide +kernel), List.mem_of_getElem? (i := 2517) (by decide +kernel)⟩
theorem lw_p206 : lw_okq (⟨"IndexedCompilerModel", "beginRun", "(I)V"⟩, 145) := ⟨⟨by decide +kernel, by decide +kernel⟩, List.mem_of_getElem? (i := 1572) (by decide +kernel), List.mem_of_getElem? (i := 2523) (by decide +kernel), List.mem_of_getElem? (i := 2524) (by decide +kernel)⟩
theorem lw_p207 : lw_okq (⟨"IndexedCompilerModel", "step", "(I)I"⟩, 145) := ⟨⟨by decide +kernel, by decide +kernel⟩, List.mem_of_getElem? (i := 1572) (by decide +kernel), List.mem_of_getElem? (i := 2527) (by decide +kernel), List.mem_of_getElem? (i := 2528) (by decide +kernel)⟩
def lw_privs_13 : List (MethodName × Nat) := [(⟨"IndexedCompilerModel", "makeNode", "(II)V"⟩, 145), (⟨"IndexedCompilerModel", "emit", "(II)V"⟩, 145), (⟨"IndexedCompilerModel", "localOf", "(I)I"⟩, 145), (⟨"IndexedCompilerModel", "makeAccess", "(II)V"⟩, 145), (⟨"IndexedCompilerModel", "within", "(III)Z"⟩, 145), (⟨"IndexedCompilerModel", "makeSequence", "(II)V"⟩, 145), (⟨"IndexedCompilerModel", "makeLet", "(II)V"⟩, 145), (⟨"IndexedCompilerModel", "makeIf", "(II)V"⟩, 145), (⟨"IndexedCompilerModel", "isRunnable", "(I)Z"⟩, 145), (⟨"IndexedCompilerModel", "codeAt", "(II)I"⟩, 145), (⟨"IndexedCompilerModel", "hasNumber", "(II)Z"⟩, 145), (⟨"IndexedCompilerModel", "isFit", "(I)Z"⟩, 145), (⟨"IndexedCompilerModel", "holdAll", "(IIIIJ)Z"⟩, 145), (⟨"IndexedCompilerModel", "reckon", "(IIIJ)J"⟩, 145), (⟨"IndexedCompilerModel", "beginRun", "(I)V"⟩, 145), (⟨"IndexedCompilerModel", "step", "(I)I"⟩, 145)]
theorem lw_r13 : ∀ q ∈ lw_privs_13, lw_okq q := List.forall_mem_cons.mpr ⟨lw_p192, List.forall_mem_cons.mpr ⟨lw_p193, List.forall_mem_cons.mpr ⟨lw_p194, List.forall_mem_cons.mpr ⟨lw_p195, List.forall_mem_cons.mpr ⟨lw_p196, List.forall_mem_cons.mpr ⟨lw_p197, List.forall_mem_cons.mpr ⟨lw_p198, List.forall_mem_cons.mpr ⟨lw_p199, List.forall_mem_cons.mpr ⟨lw_p200, List.forall_mem_cons.mpr ⟨lw_p201, List.forall_mem_cons.mpr ⟨lw_p202, List.forall_mem_cons.mpr ⟨lw_p203, List.forall_mem_cons.mpr ⟨lw_p204, List.forall_mem_cons.mpr ⟨lw_p205, List.forall_mem_cons.mpr ⟨lw_p206, List.forall_mem_cons.mpr ⟨lw_p207, fun _ h => absurd h List.not_mem_nil⟩⟩⟩⟩⟩⟩⟩⟩⟩⟩⟩⟩⟩⟩⟩⟩
theorem lw_p208 : lw_okq (⟨"IndexedCompilerModel", "push", "(I)V"⟩, 145) := ⟨⟨by decide +kernel, by decide +kernel⟩, List.mem_of_getElem? (i := 1572) (by decide +kernel), List.mem_of_getElem? (i := 2531) (by decide +kernel), List.mem_of_getElem? (i := 2532) (by decide +kernel)⟩
theorem lw_p209 : lw_okq (⟨"IndexedCompilerModel", "pop", "()I"⟩, 145) := ⟨⟨by decide +kernel, by decide +kernel⟩, List.mem_of_getElem? (i := 1572) (by decide +kernel), List.mem_of_getElem? (i := 2535) (by decide +kernel), List.mem_of_getElem? (i := 2536) (by decide +kernel)⟩
theorem lw_p210 : lw_okq (⟨"IndexedCompilerModel", "reckonTwo", "(I)I"⟩, 145) := ⟨⟨by decide +kernel, by decide +kernel⟩, List.mem_of_getElem? (i := 1572) (by decide +kernel), List.mem_of_getElem? (i := 2539) (by decide +kernel), List.mem_of_getElem? (i := 2540) (by decide +kernel)⟩
theorem lw_p211 : lw_okq (⟨"IndexedCompilerModel", "newRow", "()I"⟩, 145) := ⟨⟨by decide +kernel, by decide +kernel⟩, List.mem_of_getElem? (i := 1572) (by decide +kernel), List.mem_of_getElem? (i := 2544) (by decide +kernel), List.mem_of_getElem? (i := 2545) (by decide +kernel)⟩
theorem lw_p212 : lw_okq (⟨"IndexedCompilerModel", "access", "(I)I"⟩, 145) := ⟨⟨by decide +kernel, by decide +kernel⟩, List.mem_of_getElem? (i := 1572) (by decide +kernel), List.mem_of_getElem? (i := 2548) (by decide +kernel), List.mem_of_getElem? (i := 2549) (by decide +kernel)⟩
theorem lw_p213 : lw_okq (⟨"IndexedCompilerModel", "call", "(I)I"⟩, 145) := ⟨⟨by decide +kernel, by decide +kernel⟩, List.mem_of_getElem? (i := 1572) (by decide +kernel), List.mem_of_getElem? (i := 2552) (by decide +kernel), List.mem_of_getElem? (i := 2553) (by decide +kernel)⟩
def lw_privs_14 : List (MethodName × Nat) := [(⟨"IndexedCompilerModel", "push", "(I)V"⟩, 145), (⟨"IndexedCompilerModel", "pop", "()I"⟩, 145), (⟨"IndexedCompilerModel", "reckonTwo", "(I)I"⟩, 145), (⟨"IndexedCompilerModel", "newRow", "()I"⟩, 145), (⟨"IndexedCompilerModel", "access", "(I)I"⟩, 145), (⟨"IndexedCompilerModel", "call", "(I)I"⟩, 145)]
theorem lw_r14 : ∀ q ∈ lw_privs_14, lw_okq q := List.forall_mem_cons.mpr ⟨lw_p208, List.forall_mem_cons.mpr ⟨lw_p209, List.forall_mem_cons.mpr ⟨lw_p210, List.forall_mem_cons.mpr ⟨lw_p211, List.forall_mem_cons.mpr ⟨lw_p212, List.forall_mem_cons.mpr ⟨lw_p213, fun _ h => absurd h List.not_mem_nil⟩⟩⟩⟩⟩⟩
def lw_privs : List (MethodName × Nat) := lw_privs_1 ++ (lw_privs_2 ++ (lw_privs_3 ++ (lw_privs_4 ++ (lw_privs_5 ++ (lw_privs_6 ++ (lw_privs_7 ++ (lw_privs_8 ++ (lw_privs_9 ++ (lw_privs_10 ++ (lw_privs_11 ++ (lw_privs_12 ++ (lw_privs_13 ++ (lw_privs_14)))))))))))))
def lw_tbl : List Cond := k2_sels lw_privs ++ tables_1
theorem lw_privs_ok : ∀ q ∈ lw_privs, lw_okq q := by
  show ∀ q ∈ lw_privs_1 ++ (lw_privs_2 ++ (lw_privs_3 ++ (lw_privs_4 ++ (lw_privs_5 ++ (lw_privs_6 ++ (lw_privs_7 ++ (lw_privs_8 ++ (lw_privs_9 ++ (lw_privs_10 ++ (lw_privs_11 ++ (lw_privs_12 ++ (lw_privs_13 ++ (lw_privs_14))))))))))))), lw_okq q
  exact List.forall_mem_append.mpr ⟨lw_r1, List.forall_mem_append.mpr ⟨lw_r2, List.forall_mem_append.mpr ⟨lw_r3, List.forall_mem_append.mpr ⟨lw_r4, List.forall_mem_append.mpr ⟨lw_r5, List.forall_mem_append.mpr ⟨lw_r6, List.forall_mem_append.mpr ⟨lw_r7, List.forall_mem_append.mpr ⟨lw_r8, List.forall_mem_append.mpr ⟨lw_r9, List.forall_mem_append.mpr ⟨lw_r10, List.forall_mem_append.mpr ⟨lw_r11, List.forall_mem_append.mpr ⟨lw_r12, List.forall_mem_append.mpr ⟨lw_r13, lw_r14⟩⟩⟩⟩⟩⟩⟩⟩⟩⟩⟩⟩⟩
end
section
/-! ROWS OF TABLES, as conjunctions that a term proves. -/
def mm_allL {α : Type} (p : α → Prop) : List α → Prop
  | [] => True
  | x :: l => p x ∧ mm_allL p l
theorem mm_allL_mem {α : Type} {p : α → Prop} : ∀ {l : List α}, mm_allL p l → ∀ x ∈ l, p x
  | [], _, x, hx => (List.not_mem_nil hx).elim
  | y :: l, h, x, hx => by
    rcases List.mem_cons.mp hx with rfl | hx
    · exact h.1
    · exact mm_allL_mem h.2 x hx
def mm_all1P {α : Type} (c : Nat → α → Prop) : Nat → List α → Prop
  | _, [] => True
  | o, r :: l => c o r ∧ mm_all1P c (o + 1) l
theorem mm_all1P_ok {α : Type} {c : Nat → α → Prop} : ∀ {l : List α} {n : Nat}, mm_all1P c n l → ∀ {o : Nat} {v : α}, l[o]? = some v → c (n + o) v
  | [], n, _, o, v, hv => by simp at hv
  | r :: l, n, h, 0, v, hv => by
    cases hv
    exact h.1
  | r :: l, n, h, o + 1, v, hv => by
    rw [List.getElem?_cons_succ] at hv
    have := mm_all1P_ok h.2 hv
    rw [show n + (o + 1) = n + 1 + o by omega]
    exact this
def mm_all2P {α : Type} (c : Nat → Nat → α → Prop) : Nat → List (List (Nat × α)) → Prop
  | _, [] => True
  | o, r :: l => mm_allL (fun q => c o q.1 q.2) r ∧ mm_all2P c (o + 1) l
theorem mm_all2P_ok' {α : Type} {c : Nat → Nat → α → Prop} : ∀ {l : List (List (Nat × α))} {n : Nat}, mm_all2P c n l → ∀ {o : Nat} {r : List (Nat × α)}, l[o]? = some r → mm_allL (fun q => c (n + o) q.1 q.2) r
  | [], n, _, o, v, hv => by simp at hv
  | r :: l, n, h, 0, v, hv => by
    cases hv
    exact h.1
  | r :: l, n, h, o + 1, v, hv => by
    rw [List.getElem?_cons_succ] at hv
    have := mm_all2P_ok' h.2 hv
    rw [show n + (o + 1) = n + 1 + o by omega]
    exact this
theorem mm_all2P_ok {α : Type} {c : Nat → Nat → α → Prop} {l : List (List (Nat × α))} {n : Nat} (h : mm_all2P c n l) {o i : Nat} {v : α} (hv : mm_fd2 l o i = some v) : c (n + o) i v := by
  obtain ⟨r, hr, hm⟩ := mm_fd2_mem hv
  exact mm_allL_mem (mm_all2P_ok' h hr) _ hm
/-- the fields' names differ, by their letters -/
theorem mm_apart {N : List (List Char)} {T : u_T} {n : Nat} (hn : N.Nodup) (h : ∀ j ∈ List.range n, (N[j]?).map String.ofList = some (T j).2.1) : ∀ a, a < n → ∀ b, b < n → a ≠ b → (T a).2.1 ≠ (T b).2.1 := by
  intro a ha b hb hab he
  obtain ⟨x, hx, ex⟩ := Option.map_eq_some_iff.mp (h a (List.mem_range.mpr ha))
  obtain ⟨y, hy, ey⟩ := Option.map_eq_some_iff.mp (h b (List.mem_range.mpr hb))
  have hxy : x = y := String.ofList_injective (ex.trans (he.trans ey.symm))
  subst hxy
  obtain ⟨ha', hxa⟩ := List.getElem?_eq_some_iff.mp hx
  obtain ⟨hb', hxb⟩ := List.getElem?_eq_some_iff.mp hy
  exact hab ((List.getElem_inj hn).mp (hxa.trans hxb.symm))
theorem mm_noref {l : List Value} (h : l.all (fun x => match x with | .ref _ => false | _ => true) = true) : ∀ x ∈ l, ∀ q, x ≠ .ref q := fun x hx q hq => by
  have := List.all_eq_true.mp h x hx
  rw [hq] at this
  cases this
theorem mm_dfl {n : Nat} {ft : Nat → FieldType × Bool} {l : List Value} (h : (List.range n).all (fun j => decide (defaultValue (ft j).1 = vp_V l j)) = true) : ∀ j, j < n → defaultValue (ft j).1 = vp_V l j := fun j hj => of_decide_eq_true (List.all_eq_true.mp h j (List.mem_range.mpr hj))
section MmRows
variable {P : mm_P} {TB : List Cond} {SB : List (String × Nat × String)} {cl : List vw_C} {cn : Nat → String} {ky : Nat → MethodName} {kb : Nat → ByteArray} {hs : Nat → List (Nat × Nat × Nat × Nat)} {xX : Nat → Prop} {o i k na : Nat}
/-- what holds of a method that is called -/
def mm_cf (P : mm_P) (TB : List Cond) (cn : Nat → String) (ky : Nat → MethodName) (kb : Nat → ByteArray) (hs : Nat → List (Nat × Nat × Nat × Nat)) (k : Nat) : Prop :=
  mm_kw P ky kb hs TB k ∧ Cond.initialized (ky k).cls ∈ TB ∧ ((ky k).cls ≠ "java/lang/invoke/MethodHandle" ∧ (ky k).cls ≠ "java/lang/invoke/VarHandle") ∧ plainFor (ky k) = true ∧ cn (mm_kc P k) = (ky k).cls ∧ (mm_ki P k = true → (ky k).name = "<init>")
/-- what a row of calls says -/
def mm_mR (P : mm_P) (TB : List Cond) (cl : List vw_C) (cn : Nat → String) (ky : Nat → MethodName) (kb : Nat → ByteArray) (hs : Nat → List (Nat × Nat × Nat × Nat)) (o i : Nat) (v : Nat × Nat × Nat) : Prop :=
  (v.2.2 ≠ 3 → v.2.2 ≠ 4 → mm_kw P ky kb hs TB v.1 ∧ (v.2.2 = 5 ∨ Cond.methodLink (cn o) i (ky v.1) ∈ TB) ∧ Cond.initialized (ky v.1).cls ∈ TB ∧ ((ky v.1).cls ≠ "java/lang/invoke/MethodHandle" ∧ (ky v.1).cls ≠ "java/lang/invoke/VarHandle") ∧ plainFor (ky v.1) = true ∧ cn (mm_kc P v.1) = (ky v.1).cls ∧ (mm_ki P v.1 = true → (ky v.1).name = "<init>")
      ∧ (v.2.2 = 5 → ∃ host, Cond.methodLinkNest (cn o) i (ky v.1) host ∈ TB)
      ∧ (v.2.2 = 0 ∨ v.2.2 = 5 → Cond.static (ky v.1) ∈ TB ∧ (parseMethodDescriptor (ky v.1).desc).map (fun d => d.parameters.length) = some v.2.1)
      ∧ (v.2.2 = 1 → Cond.instanceMethod (ky v.1) ∈ TB ∧ Cond.selects (ky v.1).cls (ky v.1) (ky v.1) ∈ TB ∧ (parseMethodDescriptor (ky v.1).desc).map (fun d => d.parameters.length + 1) = some v.2.1 ∧ ∃ T N, cl[mm_kc P v.1]? = some ((ky v.1).cls, T, N))
      ∧ (v.2.2 = 2 → Cond.instanceMethod (ky v.1) ∈ TB ∧ (ky v.1).name = "<init>" ∧ mm_kr P v.1 = none ∧ Cond.code (ky v.1) (kb v.1) (mm_kl P v.1) none ∈ TB ∧ (parseMethodDescriptor (ky v.1).desc).map (fun d => d.parameters.length + 1) = some v.2.1))
  ∧ (v.2.2 = 3 → Cond.methodLink (cn o) i Lib.objectInit ∈ TB ∧ Cond.instanceMethod Lib.objectInit ∈ TB ∧ Cond.code Lib.objectInit ⟨#[0xb1]⟩ 1 none ∈ TB)
  ∧ (v.2.2 = 4 → Cond.methodLink (cn o) i arraycopyName ∈ TB ∧ Cond.native arraycopyName ∈ TB ∧ Cond.static arraycopyName ∈ TB ∧ Cond.initialized "java/lang/System" ∈ TB)
theorem mm_mr3 (h : Cond.methodLink (cn o) i Lib.objectInit ∈ TB ∧ Cond.instanceMethod Lib.objectInit ∈ TB ∧ Cond.code Lib.objectInit ⟨#[0xb1]⟩ 1 none ∈ TB) : mm_mR P TB cl cn ky kb hs o i (k, na, 3) := ⟨fun q => absurd rfl q, fun _ => h, fun q => by cases q⟩
theorem mm_mr4 (h : Cond.methodLink (cn o) i arraycopyName ∈ TB ∧ Cond.native arraycopyName ∈ TB ∧ Cond.static arraycopyName ∈ TB ∧ Cond.initialized "java/lang/System" ∈ TB) : mm_mR P TB cl cn ky kb hs o i (k, na, 4) := ⟨fun _ q => absurd rfl q, (fun q => by cases q), fun _ => h⟩
theorem mm_mr0 (h : mm_cf P TB cn ky kb hs k) (h1 : Cond.methodLink (cn o) i (ky k) ∈ TB) (h2 : Cond.static (ky k) ∈ TB) (h3 : (parseMethodDescriptor (ky k).desc).map (fun d => d.parameters.length) = some na) : mm_mR P TB cl cn ky kb hs o i (k, na, 0) :=
  ⟨fun _ _ => ⟨h.1, Or.inr h1, h.2.1, h.2.2.1, h.2.2.2.1, h.2.2.2.2.1, h.2.2.2.2.2, (fun q => by cases q), fun _ => ⟨h2, h3⟩, (fun q => by cases q), (fun q => by cases q)⟩, (fun q => by cases q), fun q => by cases q⟩
theorem mm_mr5 (h : mm_cf P TB cn ky kb hs k) (h1 : ∃ host, Cond.methodLinkNest (cn o) i (ky k) host ∈ TB) (h2 : Cond.static (ky k) ∈ TB) (h3 : (parseMethodDescriptor (ky k).desc).map (fun d => d.parameters.length) = some na) : mm_mR P TB cl cn ky kb hs o i (k, na, 5) :=
  ⟨fun _ _ => ⟨h.1, Or.inl rfl, h.2.1, h.2.2.1, h.2.2.2.1, h.2.2.2.2.1, h.2.2.2.2.2, fun _ => h1, fun _ => ⟨h2, h3⟩, (fun q => by cases q), (fun q => by cases q)⟩, (fun q => by cases q), fun q => by cases q⟩
theorem mm_mr1 (h : mm_cf P TB cn ky kb hs k) (h1 : Cond.methodLink (cn o) i (ky k) ∈ TB) (h2 : Cond.instanceMethod (ky k) ∈ TB) (h3 : Cond.selects (ky k).cls (ky k) (ky k) ∈ TB) (h4 : (parseMethodDescriptor (ky k).desc).map (fun d => d.parameters.length + 1) = some na) (h5 : ∃ T N, cl[mm_kc P k]? = some ((ky k).cls, T, N)) : mm_mR P TB cl cn ky kb hs o i (k, na, 1) :=
  ⟨fun _ _ => ⟨h.1, Or.inr h1, h.2.1, h.2.2.1, h.2.2.2.1, h.2.2.2.2.1, h.2.2.2.2.2, (fun q => by cases q), (fun q => by rcases q with q | q <;> cases q), fun _ => ⟨h2, h3, h4, h5⟩, (fun q => by cases q)⟩, (fun q => by cases q), fun q => by cases q⟩
theorem mm_mr2 (h : mm_cf P TB cn ky kb hs k) (h1 : Cond.methodLink (cn o) i (ky k) ∈ TB) (h2 : Cond.instanceMethod (ky k) ∈ TB) (h3 : (ky k).name = "<init>") (h4 : mm_kr P k = none) (h5 : Cond.code (ky k) (kb k) (mm_kl P k) none ∈ TB) (h6 : (parseMethodDescriptor (ky k).desc).map (fun d => d.parameters.length + 1) = some na) : mm_mR P TB cl cn ky kb hs o i (k, na, 2) :=
  ⟨fun _ _ => ⟨h.1, Or.inr h1, h.2.1, h.2.2.1, h.2.2.2.1, h.2.2.2.2.1, h.2.2.2.2.2, (fun q => by cases q), (fun q => by rcases q with q | q <;> cases q), (fun q => by cases q), fun _ => ⟨h2, h3, h4, h5, h6⟩⟩, (fun q => by cases q), fun q => by cases q⟩
/-- what a row of throws says -/
def mm_xR (P : mm_P) (TB : List Cond) (SB : List (String × Nat × String)) (cl : List vw_C) (cn : Nat → String) (kb : Nat → ByteArray) (hs : Nat → List (Nat × Nat × Nat × Nat)) (xX : Nat → Prop) (k pc ci : Nat) : Prop :=
  xX ci ∧ (∀ x ∈ hs k, ¬ (x.1 ≤ pc + 9 ∧ pc + 9 < x.2.1)) ∧ ∃ (X : String) (T : u_T) (i si ic : Nat) (tx : String) (names : List String), cl[ci]? = some (X, T, 0)
      ∧ decode (kb k) pc = .ok (.new i, 3) ∧ decode (kb k) (pc + 3) = .ok (.dup, 1) ∧ decode (kb k) (pc + 4) = .ok (.ldc si, 2) ∧ decode (kb k) (pc + 6) = .ok (.invokespecial ic, 3) ∧ decode (kb k) (pc + 9) = .ok (.athrow, 1)
      ∧ Cond.classLink (cn (mm_kc P k)) i X ∈ TB ∧ Cond.instantiable X 6 ∈ TB ∧ Cond.initialized X ∈ TB ∧ (cn (mm_kc P k), si, tx) ∈ SB ∧ Bundle.fit X = true ∧ (∀ n ∈ names, Bundle.fit n = true) ∧ names.length = 2
      ∧ ∀ w ∈ Bundle.ownAtoms (cn (mm_kc P k)) ic X names, w ∈ TB ∨ w = .isRef (.static Bundle.tN "UNASSIGNED_STACK" Bundle.steD) ∨ w = .isRef (.static Bundle.tN "SUPPRESSED_SENTINEL" Bundle.listD)
end MmRows
end
section
/-! THE TABLES, by wip/gen.py out of the Statement: classes and fields. -/
def tb_T0 : u_T := fun k => match k with
  | 0 => ("IndexedCompiler", "line", "LIndexedCompiler$Line;", true)
  | 1 => ("IndexedCompiler", "reader", "LIndexedCompiler$Reader;", true)
  | 2 => ("IndexedCompiler", "trees", "[LIndexedCompiler$Tree;", true)
  | 3 => ("IndexedCompiler", "checker", "LIndexedCompiler$Checker;", true)
  | 4 => ("IndexedCompiler", "coder", "LIndexedCompiler$Coder;", true)
  | 5 => ("IndexedCompiler", "slots", "LIndexedCompiler$Slots;", true)
  | 6 => ("IndexedCompiler", "machine", "LIndexedCompiler$Machine;", true)
  | 7 => ("IndexedCompiler", "desk", "LIndexedCompiler$Ground;", true)
  | 8 => ("IndexedCompiler", "asked", "LIndexedCompiler$Expression;", true)
  | 9 => ("IndexedCompiler", "functions", "I", false)
  | 10 => ("IndexedCompiler", "lastPlace", "I", false)
  | _ => ("IndexedCompiler", "checked", "Z", false)
def tb_F0 : List (FieldType × Bool) := [((.object "IndexedCompiler$Line"), true), ((.object "IndexedCompiler$Reader"), true), ((.array (.object "IndexedCompiler$Tree")), true), ((.object "IndexedCompiler$Checker"), true), ((.object "IndexedCompiler$Coder"), true), ((.object "IndexedCompiler$Slots"), true), ((.object "IndexedCompiler$Machine"), true), ((.object "IndexedCompiler$Ground"), true), ((.object "IndexedCompiler$Expression"), true), (.int, false), (.int, false), (.boolean, false)]
def tb_T1 : u_T := fun k => match k with
  | 0 => ("IndexedCompiler$Line", "signs", "[C", true)
  | 1 => ("IndexedCompiler$Line", "length", "I", false)
  | 2 => ("IndexedCompiler$Line", "kinds", "[I", true)
  | 3 => ("IndexedCompiler$Line", "places", "[I", true)
  | 4 => ("IndexedCompiler$Line", "worths", "[I", true)
  | 5 => ("IndexedCompiler$Line", "many", "I", false)
  | 6 => ("IndexedCompiler$Line", "next", "I", false)
  | 7 => ("IndexedCompiler$Line", "kind", "I", false)
  | 8 => ("IndexedCompiler$Line", "at", "I", false)
  | _ => ("IndexedCompiler$Line", "worth", "I", false)
def tb_F1 : List (FieldType × Bool) := [((.array .char), true), (.int, false), ((.array .int), true), ((.array .int), true), ((.array .int), true), (.int, false), (.int, false), (.int, false), (.int, false), (.int, false)]
def tb_T2 : u_T := fun k => match k with
  | 0 => ("IndexedCompiler$Reader", "line", "LIndexedCompiler$Line;", false)
  | 1 => ("IndexedCompiler$Reader", "tree", "LIndexedCompiler$Tree;", false)
  | _ => ("IndexedCompiler$Reader", "wrongAt", "I", false)
def tb_F2 : List (FieldType × Bool) := [((.object "IndexedCompiler$Line"), false), ((.object "IndexedCompiler$Tree"), false), (.int, false)]
def tb_T3 : u_T := fun k => match k with
  | 0 => ("IndexedCompiler$Solver", "rows", "[J", false)
  | 1 => ("IndexedCompiler$Solver", "others", "[J", false)
  | 2 => ("IndexedCompiler$Solver", "work", "[J", true)
  | 3 => ("IndexedCompiler$Solver", "kept", "I", false)
  | 4 => ("IndexedCompiler$Solver", "width", "I", false)
  | 5 => ("IndexedCompiler$Solver", "tooMuch", "Z", false)
  | _ => ("IndexedCompiler$Solver", "isFalse", "Z", false)
def tb_F3 : List (FieldType × Bool) := [((.array .long), false), ((.array .long), false), ((.array .long), true), (.int, false), (.int, false), (.boolean, false), (.boolean, false)]
def tb_T4 : u_T := fun k => match k with
  | 0 => ("IndexedCompiler$Expression", "numbers", "[J", true)
  | _ => ("IndexedCompiler$Expression", "row", "Z", false)
def tb_F4 : List (FieldType × Bool) := [((.array .long), true), (.boolean, false)]
def tb_T5 : u_T := fun k => match k with
  | 0 => ("IndexedCompiler$Ground", "solver", "LIndexedCompiler$Solver;", true)
  | 1 => ("IndexedCompiler$Ground", "factRows", "[J", true)
  | 2 => ("IndexedCompiler$Ground", "mostFacts", "I", true)
  | 3 => ("IndexedCompiler$Ground", "goalRows", "[I", true)
  | 4 => ("IndexedCompiler$Ground", "mostGoals", "I", true)
  | 5 => ("IndexedCompiler$Ground", "pending", "[LIndexedCompiler$Expression;", true)
  | 6 => ("IndexedCompiler$Ground", "pendings", "I", false)
  | 7 => ("IndexedCompiler$Ground", "facts", "I", false)
  | 8 => ("IndexedCompiler$Ground", "variables", "I", false)
  | 9 => ("IndexedCompiler$Ground", "goals", "I", false)
  | 10 => ("IndexedCompiler$Ground", "proved", "I", false)
  | 11 => ("IndexedCompiler$Ground", "allNeededProved", "Z", false)
  | 12 => ("IndexedCompiler$Ground", "fault", "I", false)
  | _ => ("IndexedCompiler$Ground", "faultPlace", "I", false)
def tb_F5 : List (FieldType × Bool) := [((.object "IndexedCompiler$Solver"), true), ((.array .long), true), (.int, true), ((.array .int), true), (.int, true), ((.array (.object "IndexedCompiler$Expression")), true), (.int, false), (.int, false), (.int, false), (.int, false), (.int, false), (.boolean, false), (.int, false), (.int, false)]
def tb_T6 : u_T := fun k => match k with
  | 0 => ("IndexedCompiler$Checker", "ground", "LIndexedCompiler$Ground;", true)
  | 1 => ("IndexedCompiler$Checker", "trees", "[LIndexedCompiler$Tree;", false)
  | 2 => ("IndexedCompiler$Checker", "tree", "LIndexedCompiler$Tree;", false)
  | 3 => ("IndexedCompiler$Checker", "functions", "I", false)
  | 4 => ("IndexedCompiler$Checker", "function", "I", false)
  | 5 => ("IndexedCompiler$Checker", "pool", "[LIndexedCompiler$Expression;", true)
  | 6 => ("IndexedCompiler$Checker", "taken", "I", false)
  | 7 => ("IndexedCompiler$Checker", "shapes", "[LIndexedCompiler$Shape;", true)
  | 8 => ("IndexedCompiler$Checker", "shapesTaken", "I", false)
  | 9 => ("IndexedCompiler$Checker", "words", "[I", true)
  | 10 => ("IndexedCompiler$Checker", "meanings", "[LIndexedCompiler$Expression;", true)
  | 11 => ("IndexedCompiler$Checker", "names", "I", false)
  | 12 => ("IndexedCompiler$Checker", "accesses", "I", false)
  | 13 => ("IndexedCompiler$Checker", "free", "I", false)
  | _ => ("IndexedCompiler$Checker", "accepted", "Z", false)
def tb_F6 : List (FieldType × Bool) := [((.object "IndexedCompiler$Ground"), true), ((.array (.object "IndexedCompiler$Tree")), false), ((.object "IndexedCompiler$Tree"), false), (.int, false), (.int, false), ((.array (.object "IndexedCompiler$Expression")), true), (.int, false), ((.array (.object "IndexedCompiler$Shape")), true), (.int, false), ((.array .int), true), ((.array (.object "IndexedCompiler$Expression")), true), (.int, false), (.int, false), (.int, false), (.boolean, false)]
def tb_T7 : u_T := fun k => match k with
  | 0 => ("IndexedCompiler$Coder", "codes", "[[I", true)
  | 1 => ("IndexedCompiler$Coder", "lengths", "[I", true)
  | 2 => ("IndexedCompiler$Coder", "parameters", "[I", true)
  | 3 => ("IndexedCompiler$Coder", "answersRow", "[Z", true)
  | 4 => ("IndexedCompiler$Coder", "tree", "LIndexedCompiler$Tree;", false)
  | 5 => ("IndexedCompiler$Coder", "code", "[I", false)
  | _ => ("IndexedCompiler$Coder", "length", "I", false)
def tb_F7 : List (FieldType × Bool) := [((.array (.array .int)), true), ((.array .int), true), ((.array .int), true), ((.array .boolean), true), ((.object "IndexedCompiler$Tree"), false), ((.array .int), false), (.int, false)]
def tb_T8 : u_T := fun k => match k with
  | 0 => ("IndexedCompiler$Slots", "isRow", "[Z", true)
  | 1 => ("IndexedCompiler$Slots", "sizes", "[I", true)
  | 2 => ("IndexedCompiler$Slots", "cells", "[I", true)
  | _ => ("IndexedCompiler$Slots", "values", "[I", true)
def tb_F8 : List (FieldType × Bool) := [((.array .boolean), true), ((.array .int), true), ((.array .int), true), ((.array .int), true)]
def tb_T9 : u_T := fun k => match k with
  | 0 => ("IndexedCompiler$Machine", "cells", "[I", true)
  | 1 => ("IndexedCompiler$Machine", "stack", "[I", true)
  | 2 => ("IndexedCompiler$Machine", "locals", "[I", true)
  | 3 => ("IndexedCompiler$Machine", "backTo", "[I", true)
  | 4 => ("IndexedCompiler$Machine", "backIn", "[I", true)
  | 5 => ("IndexedCompiler$Machine", "prints", "[I", true)
  | 6 => ("IndexedCompiler$Machine", "reports", "[I", true)
  | 7 => ("IndexedCompiler$Machine", "height", "I", false)
  | 8 => ("IndexedCompiler$Machine", "depth", "I", false)
  | 9 => ("IndexedCompiler$Machine", "function", "I", false)
  | 10 => ("IndexedCompiler$Machine", "next", "I", false)
  | 11 => ("IndexedCompiler$Machine", "how", "I", false)
  | 12 => ("IndexedCompiler$Machine", "answerRow", "I", false)
  | _ => ("IndexedCompiler$Machine", "coder", "LIndexedCompiler$Coder;", false)
def tb_F9 : List (FieldType × Bool) := [((.array .int), true), ((.array .int), true), ((.array .int), true), ((.array .int), true), ((.array .int), true), ((.array .int), true), ((.array .int), true), (.int, false), (.int, false), (.int, false), (.int, false), (.int, false), (.int, false), ((.object "IndexedCompiler$Coder"), false)]
def tb_T10 : u_T := fun k => match k with
  | 0 => ("IndexedCompiler$Tree", "nodes", "[I", true)
  | 1 => ("IndexedCompiler$Tree", "size", "I", false)
  | 2 => ("IndexedCompiler$Tree", "named", "I", false)
  | 3 => ("IndexedCompiler$Tree", "namedAt", "I", false)
  | 4 => ("IndexedCompiler$Tree", "indexNames", "I", false)
  | 5 => ("IndexedCompiler$Tree", "indexCount", "I", false)
  | 6 => ("IndexedCompiler$Tree", "props", "I", false)
  | 7 => ("IndexedCompiler$Tree", "parameters", "I", false)
  | 8 => ("IndexedCompiler$Tree", "parameterCount", "I", false)
  | 9 => ("IndexedCompiler$Tree", "result", "I", false)
  | _ => ("IndexedCompiler$Tree", "steps", "I", false)
def tb_F10 : List (FieldType × Bool) := [((.array .int), true), (.int, false), (.int, false), (.int, false), (.int, false), (.int, false), (.int, false), (.int, false), (.int, false), (.int, false), (.int, false)]
def tb_T11 : u_T := fun k => match k with
  | 0 => ("IndexedCompiler$Shape", "sort", "I", false)
  | 1 => ("IndexedCompiler$Shape", "index", "LIndexedCompiler$Expression;", true)
  | 2 => ("IndexedCompiler$Shape", "props", "I", false)
  | 3 => ("IndexedCompiler$Shape", "relations", "[I", true)
  | _ => ("IndexedCompiler$Shape", "gaps", "[LIndexedCompiler$Expression;", true)
def tb_F11 : List (FieldType × Bool) := [(.int, false), ((.object "IndexedCompiler$Expression"), true), (.int, false), ((.array .int), true), ((.array (.object "IndexedCompiler$Expression")), true)]
def tb_T12 : u_T := fun k => match k with
  | 0 => ("IndexedCompilerModel", "thrown", "I", false)
  | 1 => ("IndexedCompilerModel", "line", "[C", true)
  | 2 => ("IndexedCompilerModel", "lineSize", "I", false)
  | 3 => ("IndexedCompilerModel", "tokenKind", "[I", true)
  | 4 => ("IndexedCompilerModel", "tokenAt", "[I", true)
  | 5 => ("IndexedCompilerModel", "tokenCode", "[I", true)
  | 6 => ("IndexedCompilerModel", "token", "I", false)
  | 7 => ("IndexedCompilerModel", "faultPlace", "I", false)
  | 8 => ("IndexedCompilerModel", "isWrong", "Z", false)
  | 9 => ("IndexedCompilerModel", "wrongAt", "I", false)
  | 10 => ("IndexedCompilerModel", "functions", "I", false)
  | 11 => ("IndexedCompilerModel", "functionName", "[I", true)
  | 12 => ("IndexedCompilerModel", "indexNames", "[I", true)
  | 13 => ("IndexedCompilerModel", "indexMany", "[I", true)
  | 14 => ("IndexedCompilerModel", "ownProps", "[I", true)
  | 15 => ("IndexedCompilerModel", "ownMany", "[I", true)
  | 16 => ("IndexedCompilerModel", "paramNames", "[I", true)
  | 17 => ("IndexedCompilerModel", "paramTypes", "[I", true)
  | 18 => ("IndexedCompilerModel", "paramMany", "[I", true)
  | 19 => ("IndexedCompilerModel", "resultType", "[I", true)
  | 20 => ("IndexedCompilerModel", "body", "[I", true)
  | 21 => ("IndexedCompilerModel", "nodes", "I", false)
  | 22 => ("IndexedCompilerModel", "nodeKind", "[I", true)
  | 23 => ("IndexedCompilerModel", "nodeA", "[I", true)
  | 24 => ("IndexedCompilerModel", "nodeB", "[I", true)
  | 25 => ("IndexedCompilerModel", "nodeC", "[I", true)
  | 26 => ("IndexedCompilerModel", "nodeD", "[I", true)
  | 27 => ("IndexedCompilerModel", "nodeE", "[I", true)
  | 28 => ("IndexedCompilerModel", "nodeAt", "[I", true)
  | 29 => ("IndexedCompilerModel", "nodeFree", "[Z", true)
  | 30 => ("IndexedCompilerModel", "terms", "I", false)
  | 31 => ("IndexedCompilerModel", "termTimes", "[I", true)
  | 32 => ("IndexedCompilerModel", "termName", "[I", true)
  | 33 => ("IndexedCompilerModel", "termAt", "[I", true)
  | 34 => ("IndexedCompilerModel", "indexes", "I", false)
  | 35 => ("IndexedCompilerModel", "indexFirst", "[I", true)
  | 36 => ("IndexedCompilerModel", "indexTerms", "[I", true)
  | 37 => ("IndexedCompilerModel", "indexAt", "[I", true)
  | 38 => ("IndexedCompilerModel", "props", "I", false)
  | 39 => ("IndexedCompilerModel", "propLeft", "[I", true)
  | 40 => ("IndexedCompilerModel", "propRelation", "[I", true)
  | 41 => ("IndexedCompilerModel", "propRight", "[I", true)
  | 42 => ("IndexedCompilerModel", "types", "I", false)
  | 43 => ("IndexedCompilerModel", "typeKind", "[I", true)
  | 44 => ("IndexedCompilerModel", "typeIndex", "[I", true)
  | 45 => ("IndexedCompilerModel", "typeName", "[I", true)
  | 46 => ("IndexedCompilerModel", "typeProps", "[I", true)
  | 47 => ("IndexedCompilerModel", "typeMany", "[I", true)
  | 48 => ("IndexedCompilerModel", "args", "I", false)
  | 49 => ("IndexedCompilerModel", "argNodes", "[I", true)
  | 50 => ("IndexedCompilerModel", "sameAt", "I", false)
  | 51 => ("IndexedCompilerModel", "frames", "I", false)
  | 52 => ("IndexedCompilerModel", "frameKind", "[I", true)
  | 53 => ("IndexedCompilerModel", "frameState", "[I", true)
  | 54 => ("IndexedCompilerModel", "frameDeep", "[I", true)
  | 55 => ("IndexedCompilerModel", "frameNode", "[I", true)
  | 56 => ("IndexedCompilerModel", "frameOther", "[I", true)
  | 57 => ("IndexedCompilerModel", "frameThird", "[I", true)
  | 58 => ("IndexedCompilerModel", "frameFourth", "[I", true)
  | 59 => ("IndexedCompilerModel", "frameAt", "[I", true)
  | 60 => ("IndexedCompilerModel", "frameArgs", "[I", true)
  | 61 => ("IndexedCompilerModel", "given", "I", false)
  | 62 => ("IndexedCompilerModel", "goals", "I", false)
  | 63 => ("IndexedCompilerModel", "proved", "I", false)
  | 64 => ("IndexedCompilerModel", "accesses", "I", false)
  | 65 => ("IndexedCompilerModel", "freeOnes", "I", false)
  | 66 => ("IndexedCompilerModel", "faultFunction", "I", false)
  | 67 => ("IndexedCompilerModel", "isAccepted", "Z", false)
  | 68 => ("IndexedCompilerModel", "goalFunction", "[I", true)
  | 69 => ("IndexedCompilerModel", "goalAt", "[I", true)
  | 70 => ("IndexedCompilerModel", "goalSort", "[I", true)
  | 71 => ("IndexedCompilerModel", "goalProved", "[Z", true)
  | 72 => ("IndexedCompilerModel", "goalFacts", "[I", true)
  | 73 => ("IndexedCompilerModel", "goalVariables", "[I", true)
  | 74 => ("IndexedCompilerModel", "fault", "I", false)
  | 75 => ("IndexedCompilerModel", "checking", "I", false)
  | 76 => ("IndexedCompilerModel", "variables", "I", false)
  | 77 => ("IndexedCompilerModel", "facts", "I", false)
  | 78 => ("IndexedCompilerModel", "factRows", "[J", true)
  | 79 => ("IndexedCompilerModel", "named", "I", false)
  | 80 => ("IndexedCompilerModel", "envName", "[I", true)
  | 81 => ("IndexedCompilerModel", "envSort", "[I", true)
  | 82 => ("IndexedCompilerModel", "envRows", "[J", true)
  | 83 => ("IndexedCompilerModel", "top", "I", false)
  | 84 => ("IndexedCompilerModel", "valueRows", "[J", true)
  | 85 => ("IndexedCompilerModel", "valueIsRow", "[Z", true)
  | 86 => ("IndexedCompilerModel", "one", "[J", true)
  | 87 => ("IndexedCompilerModel", "left", "[J", true)
  | 88 => ("IndexedCompilerModel", "right", "[J", true)
  | 89 => ("IndexedCompilerModel", "goal", "[J", true)
  | 90 => ("IndexedCompilerModel", "envFrom", "I", false)
  | 91 => ("IndexedCompilerModel", "iName", "I", false)
  | 92 => ("IndexedCompilerModel", "iAt", "I", false)
  | 93 => ("IndexedCompilerModel", "iTimes", "J", false)
  | 94 => ("IndexedCompilerModel", "envTo", "I", false)
  | 95 => ("IndexedCompilerModel", "callPlace", "I", false)
  | 96 => ("IndexedCompilerModel", "rows", "I", false)
  | 97 => ("IndexedCompilerModel", "rowsAt", "[J", true)
  | 98 => ("IndexedCompilerModel", "fresh", "I", false)
  | 99 => ("IndexedCompilerModel", "freshAt", "[J", true)
  | 100 => ("IndexedCompilerModel", "tight", "[J", true)
  | 101 => ("IndexedCompilerModel", "isFalse", "Z", false)
  | 102 => ("IndexedCompilerModel", "steps", "I", false)
  | 103 => ("IndexedCompilerModel", "stepNode", "[I", true)
  | 104 => ("IndexedCompilerModel", "stepState", "[I", true)
  | 105 => ("IndexedCompilerModel", "stepHow", "[I", true)
  | 106 => ("IndexedCompilerModel", "stepType", "[I", true)
  | 107 => ("IndexedCompilerModel", "stepTop", "[I", true)
  | 108 => ("IndexedCompilerModel", "stepVariables", "[I", true)
  | 109 => ("IndexedCompilerModel", "stepFacts", "[I", true)
  | 110 => ("IndexedCompilerModel", "stepOther", "[I", true)
  | 111 => ("IndexedCompilerModel", "stepNamed", "[I", true)
  | 112 => ("IndexedCompilerModel", "lookNamed", "I", false)
  | 113 => ("IndexedCompilerModel", "told", "I", false)
  | 114 => ("IndexedCompilerModel", "codeMany", "[I", true)
  | 115 => ("IndexedCompilerModel", "codes", "[I", true)
  | 116 => ("IndexedCompilerModel", "numbers", "[I", true)
  | 117 => ("IndexedCompilerModel", "codeFree", "[Z", true)
  | 118 => ("IndexedCompilerModel", "compiled", "I", false)
  | 119 => ("IndexedCompilerModel", "locals", "I", false)
  | 120 => ("IndexedCompilerModel", "localName", "[I", true)
  | 121 => ("IndexedCompilerModel", "slotIsRow", "[Z", true)
  | 122 => ("IndexedCompilerModel", "slots", "[I", true)
  | 123 => ("IndexedCompilerModel", "slotRows", "[I", true)
  | 124 => ("IndexedCompilerModel", "values", "[I", true)
  | 125 => ("IndexedCompilerModel", "cells", "[I", true)
  | 126 => ("IndexedCompilerModel", "taken", "I", false)
  | 127 => ("IndexedCompilerModel", "pile", "[I", true)
  | 128 => ("IndexedCompilerModel", "piled", "I", false)
  | 129 => ("IndexedCompilerModel", "calls", "I", false)
  | 130 => ("IndexedCompilerModel", "callFunction", "[I", true)
  | 131 => ("IndexedCompilerModel", "callNext", "[I", true)
  | 132 => ("IndexedCompilerModel", "callLocals", "[I", true)
  | 133 => ("IndexedCompilerModel", "prints", "[I", true)
  | 134 => ("IndexedCompilerModel", "printedMany", "I", false)
  | 135 => ("IndexedCompilerModel", "ended", "I", false)
  | 136 => ("IndexedCompilerModel", "answered", "I", false)
  | 137 => ("IndexedCompilerModel", "answerRow", "I", false)
  | 138 => ("IndexedCompilerModel", "made", "I", false)
  | 139 => ("IndexedCompilerModel", "checks", "I", false)
  | 140 => ("IndexedCompilerModel", "reached", "I", false)
  | 141 => ("IndexedCompilerModel", "deepest", "I", false)
  | 142 => ("IndexedCompilerModel", "paramCell", "[I", true)
  | 143 => ("IndexedCompilerModel", "deskFacts", "I", false)
  | _ => ("IndexedCompilerModel", "deskRows", "[J", true)
def tb_F12 : List (FieldType × Bool) := [(.int, false), ((.array .char), true), (.int, false), ((.array .int), true), ((.array .int), true), ((.array .int), true), (.int, false), (.int, false), (.boolean, false), (.int, false), (.int, false), ((.array .int), true), ((.array .int), true), ((.array .int), true), ((.array .int), true), ((.array .int), true), ((.array .int), true), ((.array .int), true), ((.array .int), true), ((.array .int), true), ((.array .int), true), (.int, false), ((.array .int), true), ((.array .int), true), ((.array .int), true), ((.array .int), true), ((.array .int), true), ((.array .int), true), ((.array .int), true), ((.array .boolean), true), (.int, false), ((.array .int), true), ((.array .int), true), ((.array .int), true), (.int, false), ((.array .int), true), ((.array .int), true), ((.array .int), true), (.int, false), ((.array .int), true), ((.array .int), true), ((.array .int), true), (.int, false), ((.array .int), true), ((.array .int), true), ((.array .int), true), ((.array .int), true), ((.array .int), true), (.int, false), ((.array .int), true), (.int, false), (.int, false), ((.array .int), true), ((.array .int), true), ((.array .int), true), ((.array .int), true), ((.array .int), true), ((.array .int), true), ((.array .int), true), ((.array .int), true), ((.array .int), true), (.int, false), (.int, false), (.int, false), (.int, false), (.int, false), (.int, false), (.boolean, false), ((.array .int), true), ((.array .int), true), ((.array .int), true), ((.array .boolean), true), ((.array .int), true), ((.array .int), true), (.int, false), (.int, false), (.int, false), (.int, false), ((.array .long), true), (.int, false), ((.array .int), true), ((.array .int), true), ((.array .long), true), (.int, false), ((.array .long), true), ((.array .boolean), true), ((.array .long), true), ((.array .long), true), ((.array .long), true), ((.array .long), true), (.int, false), (.int, false), (.int, false), (.long, false), (.int, false), (.int, false), (.int, false), ((.array .long), true), (.int, false), ((.array .long), true), ((.array .long), true), (.boolean, false), (.int, false), ((.array .int), true), ((.array .int), true), ((.array .int), true), ((.array .int), true), ((.array .int), true), ((.array .int), true), ((.array .int), true), ((.array .int), true), ((.array .int), true), (.int, false), (.int, false), ((.array .int), true), ((.array .int), true), ((.array .int), true), ((.array .boolean), true), (.int, false), (.int, false), ((.array .int), true), ((.array .boolean), true), ((.array .int), true), ((.array .int), true), ((.array .int), true), ((.array .int), true), (.int, false), ((.array .int), true), (.int, false), (.int, false), ((.array .int), true), ((.array .int), true), ((.array .int), true), ((.array .int), true), (.int, false), (.int, false), (.int, false), (.int, false), (.int, false), (.int, false), (.int, false), (.int, false), ((.array .int), true), (.int, false), ((.array .long), true)]
def tb_TX : u_T := fun _ => ("", "", "", false)
def tb_cl : List vw_C := [("IndexedCompiler", tb_T0, 12), ("IndexedCompiler$Line", tb_T1, 10), ("IndexedCompiler$Reader", tb_T2, 3), ("IndexedCompiler$Solver", tb_T3, 7), ("IndexedCompiler$Expression", tb_T4, 2), ("IndexedCompiler$Ground", tb_T5, 14), ("IndexedCompiler$Checker", tb_T6, 15), ("IndexedCompiler$Coder", tb_T7, 7), ("IndexedCompiler$Slots", tb_T8, 4), ("IndexedCompiler$Machine", tb_T9, 14), ("IndexedCompiler$Tree", tb_T10, 11), ("IndexedCompiler$Shape", tb_T11, 5), ("IndexedCompilerModel", tb_T12, 145), ("java/lang/IllegalStateException", tb_TX, 0), ("java/lang/IllegalArgumentException", tb_TX, 0)]
def tb_names : List String := ["IndexedCompiler", "IndexedCompiler$Line", "IndexedCompiler$Reader", "IndexedCompiler$Solver", "IndexedCompiler$Expression", "IndexedCompiler$Ground", "IndexedCompiler$Checker", "IndexedCompiler$Coder", "IndexedCompiler$Slots", "IndexedCompiler$Machine", "IndexedCompiler$Tree", "IndexedCompiler$Shape", "IndexedCompilerModel", "java/lang/IllegalStateException", "java/lang/IllegalArgumentException", "IndexedCompilerLaw", "java/lang/Math", "java/util/Arrays"]
def tb_cn (o : Nat) : String := (tb_names[o]?).getD ""
def tb_tyl : List FieldType := [.int, .long, .char, .boolean, (.object "IndexedCompiler$Tree"), (.object "IndexedCompiler$Expression"), (.object "IndexedCompiler$Shape"), (.array .int)]
def tb_FF : List (List (FieldType × Bool)) := [tb_F0, tb_F1, tb_F2, tb_F3, tb_F4, tb_F5, tb_F6, tb_F7, tb_F8, tb_F9, tb_F10, tb_F11, tb_F12]
def tb_ft (ci j : Nat) : FieldType × Bool := (((tb_FF[ci]?).getD [])[j]?).getD (.int, false)
def tb_TB : List Cond := lw_tbl.filter mm_gw
theorem tb_in {w : Cond} (h : w ∈ lw_tbl) (hg : mm_gw w = true) : w ∈ tb_TB := List.mem_filter.mpr ⟨h, hg⟩
theorem tb_i1 {w : Cond} (h : w ∈ tables_1_1) (hg : mm_gw w = true) : w ∈ tb_TB := tb_in (List.mem_append_right _ (show w ∈ tables_1 from List.mem_append_left _ h)) hg
theorem tb_i2 {w : Cond} (h : w ∈ tables_1_2) (hg : mm_gw w = true) : w ∈ tb_TB := tb_in (List.mem_append_right _ (show w ∈ tables_1 from List.mem_append_right _ (List.mem_append_left _ h))) hg
theorem tb_i3 {w : Cond} (h : w ∈ tables_1_3) (hg : mm_gw w = true) : w ∈ tb_TB := tb_in (List.mem_append_right _ (show w ∈ tables_1 from List.mem_append_right _ (List.mem_append_right _ (List.mem_append_left _ h)))) hg
theorem tb_i4 {w : Cond} (h : w ∈ tables_1_4) (hg : mm_gw w = true) : w ∈ tb_TB := tb_in (List.mem_append_right _ (show w ∈ tables_1 from List.mem_append_right _ (List.mem_append_right _ (List.mem_append_right _ (List.mem_append_left _ h))))) hg
theorem tb_i5 {w : Cond} (h : w ∈ tables_1_5) (hg : mm_gw w = true) : w ∈ tb_TB := tb_in (List.mem_append_right _ (show w ∈ tables_1 from List.mem_append_right _ (List.mem_append_right _ (List.mem_append_right _ (List.mem_append_right _ (List.mem_append_left _ h)))))) hg
theorem tb_i6 {w : Cond} (h : w ∈ tables_1_6) (hg : mm_gw w = true) : w ∈ tb_TB := tb_in (List.mem_append_right _ (show w ∈ tables_1 from List.mem_append_right _ (List.mem_append_right _ (List.mem_append_right _ (List.mem_append_right _ (List.mem_append_right _ (List.mem_append_left _ h))))))) hg
theorem tb_i7 {w : Cond} (h : w ∈ tables_1_7) (hg : mm_gw w = true) : w ∈ tb_TB := tb_in (List.mem_append_right _ (show w ∈ tables_1 from List.mem_append_right _ (List.mem_append_right _ (List.mem_append_right _ (List.mem_append_right _ (List.mem_append_right _ (List.mem_append_right _ (List.mem_append_left _ h)))))))) hg
theorem tb_i8 {w : Cond} (h : w ∈ tables_1_8) (hg : mm_gw w = true) : w ∈ tb_TB := tb_in (List.mem_append_right _ (show w ∈ tables_1 from List.mem_append_right _ (List.mem_append_right _ (List.mem_append_right _ (List.mem_append_right _ (List.mem_append_right _ (List.mem_append_right _ (List.mem_append_right _ (List.mem_append_left _ h))))))))) hg
theorem tb_i9 {w : Cond} (h : w ∈ tables_1_9) (hg : mm_gw w = true) : w ∈ tb_TB := tb_in (List.mem_append_right _ (show w ∈ tables_1 from List.mem_append_right _ (List.mem_append_right _ (List.mem_append_right _ (List.mem_append_right _ (List.mem_append_right _ (List.mem_append_right _ (List.mem_append_right _ (List.mem_append_right _ (List.mem_append_left _ h)))))))))) hg
theorem tb_i10 {w : Cond} (h : w ∈ tables_1_10) (hg : mm_gw w = true) : w ∈ tb_TB := tb_in (List.mem_append_right _ (show w ∈ tables_1 from List.mem_append_right _ (List.mem_append_right _ (List.mem_append_right _ (List.mem_append_right _ (List.mem_append_right _ (List.mem_append_right _ (List.mem_append_right _ (List.mem_append_right _ (List.mem_append_right _ (List.mem_append_left _ h))))))))))) hg
theorem tb_i11 {w : Cond} (h : w ∈ tables_1_11) (hg : mm_gw w = true) : w ∈ tb_TB := tb_in (List.mem_append_right _ (show w ∈ tables_1 from List.mem_append_right _ (List.mem_append_right _ (List.mem_append_right _ (List.mem_append_right _ (List.mem_append_right _ (List.mem_append_right _ (List.mem_append_right _ (List.mem_append_right _ (List.mem_append_right _ (List.mem_append_right _ (h)))))))))))) hg
theorem tb_p1 {w : Cond} (h : w ∈ k2_sels lw_privs_1) (hg : mm_gw w = true) : w ∈ tb_TB := tb_in (List.mem_append_left _ (by
  obtain ⟨q, h, e⟩ := List.mem_map.mp h
  exact List.mem_map.mpr ⟨q, (show q ∈ lw_privs from List.mem_append_left _ h), e⟩)) hg
theorem tb_p2 {w : Cond} (h : w ∈ k2_sels lw_privs_2) (hg : mm_gw w = true) : w ∈ tb_TB := tb_in (List.mem_append_left _ (by
  obtain ⟨q, h, e⟩ := List.mem_map.mp h
  exact List.mem_map.mpr ⟨q, (show q ∈ lw_privs from List.mem_append_right _ (List.mem_append_left _ h)), e⟩)) hg
theorem tb_p3 {w : Cond} (h : w ∈ k2_sels lw_privs_3) (hg : mm_gw w = true) : w ∈ tb_TB := tb_in (List.mem_append_left _ (by
  obtain ⟨q, h, e⟩ := List.mem_map.mp h
  exact List.mem_map.mpr ⟨q, (show q ∈ lw_privs from List.mem_append_right _ (List.mem_append_right _ (List.mem_append_left _ h))), e⟩)) hg
theorem tb_p4 {w : Cond} (h : w ∈ k2_sels lw_privs_4) (hg : mm_gw w = true) : w ∈ tb_TB := tb_in (List.mem_append_left _ (by
  obtain ⟨q, h, e⟩ := List.mem_map.mp h
  exact List.mem_map.mpr ⟨q, (show q ∈ lw_privs from List.mem_append_right _ (List.mem_append_right _ (List.mem_append_right _ (List.mem_append_left _ h)))), e⟩)) hg
theorem tb_p5 {w : Cond} (h : w ∈ k2_sels lw_privs_5) (hg : mm_gw w = true) : w ∈ tb_TB := tb_in (List.mem_append_left _ (by
  obtain ⟨q, h, e⟩ := List.mem_map.mp h
  exact List.mem_map.mpr ⟨q, (show q ∈ lw_privs from List.mem_append_right _ (List.mem_append_right _ (List.mem_append_right _ (List.mem_append_right _ (List.mem_append_left _ h))))), e⟩)) hg
theorem tb_p6 {w : Cond} (h : w ∈ k2_sels lw_privs_6) (hg : mm_gw w = true) : w ∈ tb_TB := tb_in (List.mem_append_left _ (by
  obtain ⟨q, h, e⟩ := List.mem_map.mp h
  exact List.mem_map.mpr ⟨q, (show q ∈ lw_privs from List.mem_append_right _ (List.mem_append_right _ (List.mem_append_right _ (List.mem_append_right _ (List.mem_append_right _ (List.mem_append_left _ h)))))), e⟩)) hg
theorem tb_p7 {w : Cond} (h : w ∈ k2_sels lw_privs_7) (hg : mm_gw w = true) : w ∈ tb_TB := tb_in (List.mem_append_left _ (by
  obtain ⟨q, h, e⟩ := List.mem_map.mp h
  exact List.mem_map.mpr ⟨q, (show q ∈ lw_privs from List.mem_append_right _ (List.mem_append_right _ (List.mem_append_right _ (List.mem_append_right _ (List.mem_append_right _ (List.mem_append_right _ (List.mem_append_left _ h))))))), e⟩)) hg
theorem tb_p8 {w : Cond} (h : w ∈ k2_sels lw_privs_8) (hg : mm_gw w = true) : w ∈ tb_TB := tb_in (List.mem_append_left _ (by
  obtain ⟨q, h, e⟩ := List.mem_map.mp h
  exact List.mem_map.mpr ⟨q, (show q ∈ lw_privs from List.mem_append_right _ (List.mem_append_right _ (List.mem_append_right _ (List.mem_append_right _ (List.mem_append_right _ (List.mem_append_right _ (List.mem_append_right _ (List.mem_append_left _ h)))))))), e⟩)) hg
theorem tb_p9 {w : Cond} (h : w ∈ k2_sels lw_privs_9) (hg : mm_gw w = true) : w ∈ tb_TB := tb_in (List.mem_append_left _ (by
  obtain ⟨q, h, e⟩ := List.mem_map.mp h
  exact List.mem_map.mpr ⟨q, (show q ∈ lw_privs from List.mem_append_right _ (List.mem_append_right _ (List.mem_append_right _ (List.mem_append_right _ (List.mem_append_right _ (List.mem_append_right _ (List.mem_append_right _ (List.mem_append_right _ (List.mem_append_left _ h))))))))), e⟩)) hg
theorem tb_p10 {w : Cond} (h : w ∈ k2_sels lw_privs_10) (hg : mm_gw w = true) : w ∈ tb_TB := tb_in (List.mem_append_left _ (by
  obtain ⟨q, h, e⟩ := List.mem_map.mp h
  exact List.mem_map.mpr ⟨q, (show q ∈ lw_privs from List.mem_append_right _ (List.mem_append_right _ (List.mem_append_right _ (List.mem_append_right _ (List.mem_append_right _ (List.mem_append_right _ (List.mem_append_right _ (List.mem_append_right _ (List.mem_append_right _ (List.mem_append_left _ h)))))))))), e⟩)) hg
theorem tb_p11 {w : Cond} (h : w ∈ k2_sels lw_privs_11) (hg : mm_gw w = true) : w ∈ tb_TB := tb_in (List.mem_append_left _ (by
  obtain ⟨q, h, e⟩ := List.mem_map.mp h
  exact List.mem_map.mpr ⟨q, (show q ∈ lw_privs from List.mem_append_right _ (List.mem_append_right _ (List.mem_append_right _ (List.mem_append_right _ (List.mem_append_right _ (List.mem_append_right _ (List.mem_append_right _ (List.mem_append_right _ (List.mem_append_right _ (List.mem_append_right _ (List.mem_append_left _ h))))))))))), e⟩)) hg
theorem tb_p12 {w : Cond} (h : w ∈ k2_sels lw_privs_12) (hg : mm_gw w = true) : w ∈ tb_TB := tb_in (List.mem_append_left _ (by
  obtain ⟨q, h, e⟩ := List.mem_map.mp h
  exact List.mem_map.mpr ⟨q, (show q ∈ lw_privs from List.mem_append_right _ (List.mem_append_right _ (List.mem_append_right _ (List.mem_append_right _ (List.mem_append_right _ (List.mem_append_right _ (List.mem_append_right _ (List.mem_append_right _ (List.mem_append_right _ (List.mem_append_right _ (List.mem_append_right _ (List.mem_append_left _ h)))))))))))), e⟩)) hg
theorem tb_p13 {w : Cond} (h : w ∈ k2_sels lw_privs_13) (hg : mm_gw w = true) : w ∈ tb_TB := tb_in (List.mem_append_left _ (by
  obtain ⟨q, h, e⟩ := List.mem_map.mp h
  exact List.mem_map.mpr ⟨q, (show q ∈ lw_privs from List.mem_append_right _ (List.mem_append_right _ (List.mem_append_right _ (List.mem_append_right _ (List.mem_append_right _ (List.mem_append_right _ (List.mem_append_right _ (List.mem_append_right _ (List.mem_append_right _ (List.mem_append_right _ (List.mem_append_right _ (List.mem_append_right _ (List.mem_append_left _ h))))))))))))), e⟩)) hg
theorem tb_p14 {w : Cond} (h : w ∈ k2_sels lw_privs_14) (hg : mm_gw w = true) : w ∈ tb_TB := tb_in (List.mem_append_left _ (by
  obtain ⟨q, h, e⟩ := List.mem_map.mp h
  exact List.mem_map.mpr ⟨q, (show q ∈ lw_privs from List.mem_append_right _ (List.mem_append_right _ (List.mem_append_right _ (List.mem_append_right _ (List.mem_append_right _ (List.mem_append_right _ (List.mem_append_right _ (List.mem_append_right _ (List.mem_append_right _ (List.mem_append_right _ (List.mem_append_right _ (List.mem_append_right _ (List.mem_append_right _ (h)))))))))))))), e⟩)) hg
theorem tb_pd0 : parseFieldDescriptor "I" = some .int := by decide +kernel
theorem tb_pd1 : parseFieldDescriptor "J" = some .long := by decide +kernel
theorem tb_pd2 : parseFieldDescriptor "LIndexedCompiler$Checker;" = some (.object "IndexedCompiler$Checker") := by decide +kernel
theorem tb_pd3 : parseFieldDescriptor "LIndexedCompiler$Coder;" = some (.object "IndexedCompiler$Coder") := by decide +kernel
theorem tb_pd4 : parseFieldDescriptor "LIndexedCompiler$Expression;" = some (.object "IndexedCompiler$Expression") := by decide +kernel
theorem tb_pd5 : parseFieldDescriptor "LIndexedCompiler$Ground;" = some (.object "IndexedCompiler$Ground") := by decide +kernel
theorem tb_pd6 : parseFieldDescriptor "LIndexedCompiler$Line;" = some (.object "IndexedCompiler$Line") := by decide +kernel
theorem tb_pd7 : parseFieldDescriptor "LIndexedCompiler$Machine;" = some (.object "IndexedCompiler$Machine") := by decide +kernel
theorem tb_pd8 : parseFieldDescriptor "LIndexedCompiler$Reader;" = some (.object "IndexedCompiler$Reader") := by decide +kernel
theorem tb_pd9 : parseFieldDescriptor "LIndexedCompiler$Slots;" = some (.object "IndexedCompiler$Slots") := by decide +kernel
theorem tb_pd10 : parseFieldDescriptor "LIndexedCompiler$Solver;" = some (.object "IndexedCompiler$Solver") := by decide +kernel
theorem tb_pd11 : parseFieldDescriptor "LIndexedCompiler$Tree;" = some (.object "IndexedCompiler$Tree") := by decide +kernel
theorem tb_pd12 : parseFieldDescriptor "Z" = some .boolean := by decide +kernel
theorem tb_pd13 : parseFieldDescriptor "[C" = some (.array .char) := by decide +kernel
theorem tb_pd14 : parseFieldDescriptor "[I" = some (.array .int) := by decide +kernel
theorem tb_pd15 : parseFieldDescriptor "[J" = some (.array .long) := by decide +kernel
theorem tb_pd16 : parseFieldDescriptor "[LIndexedCompiler$Expression;" = some (.array (.object "IndexedCompiler$Expression")) := by decide +kernel
theorem tb_pd17 : parseFieldDescriptor "[LIndexedCompiler$Shape;" = some (.array (.object "IndexedCompiler$Shape")) := by decide +kernel
theorem tb_pd18 : parseFieldDescriptor "[LIndexedCompiler$Tree;" = some (.array (.object "IndexedCompiler$Tree")) := by decide +kernel
theorem tb_pd19 : parseFieldDescriptor "[Z" = some (.array .boolean) := by decide +kernel
theorem tb_pd20 : parseFieldDescriptor "[[I" = some (.array (.array .int)) := by decide +kernel
set_option maxRecDepth 20000 in
theorem tb_w0 : mm_allL (fun w => w ∈ tb_TB) (u_ws "IndexedCompiler" tb_T0 12) := ⟨(tb_i2 (List.mem_of_getElem? (i := 138) rfl) rfl),
  (tb_i2 (List.mem_of_getElem? (i := 140) rfl) rfl),
  (tb_i2 (List.mem_of_getElem? (i := 142) rfl) rfl),
  (tb_i2 (List.mem_of_getElem? (i := 144) rfl) rfl),
  (tb_i2 (List.mem_of_getElem? (i := 146) rfl) rfl),
  (tb_i2 (List.mem_of_getElem? (i := 148) rfl) rfl),
  (tb_i2 (List.mem_of_getElem? (i := 150) rfl) rfl),
  (tb_i2 (List.mem_of_getElem? (i := 152) rfl) rfl),
  (tb_i2 (List.mem_of_getElem? (i := 154) rfl) rfl),
  (tb_i2 (List.mem_of_getElem? (i := 156) rfl) rfl),
  (tb_i2 (List.mem_of_getElem? (i := 158) rfl) rfl),
  (tb_i2 (List.mem_of_getElem? (i := 160) rfl) rfl),
  trivial⟩
set_option maxRecDepth 20000 in
theorem tb_f0 : mm_allL (fun j => parseFieldDescriptor (tb_T0 j).2.2.1 = some (tb_ft 0 j).1 ∧ (tb_T0 j).2.2.2 = (tb_ft 0 j).2 ∧ (tb_T0 j).1 = "IndexedCompiler") (List.range 12) := ⟨⟨tb_pd6, rfl, rfl⟩, ⟨tb_pd8, rfl, rfl⟩, ⟨tb_pd18, rfl, rfl⟩, ⟨tb_pd2, rfl, rfl⟩, ⟨tb_pd3, rfl, rfl⟩, ⟨tb_pd9, rfl, rfl⟩, ⟨tb_pd7, rfl, rfl⟩, ⟨tb_pd5, rfl, rfl⟩, ⟨tb_pd4, rfl, rfl⟩, ⟨tb_pd0, rfl, rfl⟩, ⟨tb_pd0, rfl, rfl⟩, ⟨tb_pd12, rfl, rfl⟩, trivial⟩
def tb_N0 : List (List Char) := [['l', 'i', 'n', 'e'], ['r', 'e', 'a', 'd', 'e', 'r'], ['t', 'r', 'e', 'e', 's'], ['c', 'h', 'e', 'c', 'k', 'e', 'r'], ['c', 'o', 'd', 'e', 'r'], ['s', 'l', 'o', 't', 's'], ['m', 'a', 'c', 'h', 'i', 'n', 'e'], ['d', 'e', 's', 'k'], ['a', 's', 'k', 'e', 'd'], ['f', 'u', 'n', 'c', 't', 'i', 'o', 'n', 's'], ['l', 'a', 's', 't', 'P', 'l', 'a', 'c', 'e'], ['c', 'h', 'e', 'c', 'k', 'e', 'd']]
set_option maxRecDepth 20000 in
theorem tb_n0 : tb_N0.Nodup := by decide +kernel
set_option maxRecDepth 20000 in
theorem tb_m0 : mm_allL (fun j => (tb_N0[j]?).map String.ofList = some (tb_T0 j).2.1) (List.range 12) := ⟨rfl, rfl, rfl, rfl, rfl, rfl, rfl, rfl, rfl, rfl, rfl, rfl, trivial⟩
set_option maxRecDepth 20000 in
theorem tb_w1 : mm_allL (fun w => w ∈ tb_TB) (u_ws "IndexedCompiler$Line" tb_T1 10) := ⟨(tb_i1 (List.mem_of_getElem? (i := 55) rfl) rfl),
  (tb_i1 (List.mem_of_getElem? (i := 57) rfl) rfl),
  (tb_i1 (List.mem_of_getElem? (i := 59) rfl) rfl),
  (tb_i1 (List.mem_of_getElem? (i := 61) rfl) rfl),
  (tb_i1 (List.mem_of_getElem? (i := 63) rfl) rfl),
  (tb_i1 (List.mem_of_getElem? (i := 65) rfl) rfl),
  (tb_i1 (List.mem_of_getElem? (i := 67) rfl) rfl),
  (tb_i1 (List.mem_of_getElem? (i := 69) rfl) rfl),
  (tb_i1 (List.mem_of_getElem? (i := 71) rfl) rfl),
  (tb_i1 (List.mem_of_getElem? (i := 73) rfl) rfl),
  trivial⟩
set_option maxRecDepth 20000 in
theorem tb_f1 : mm_allL (fun j => parseFieldDescriptor (tb_T1 j).2.2.1 = some (tb_ft 1 j).1 ∧ (tb_T1 j).2.2.2 = (tb_ft 1 j).2 ∧ (tb_T1 j).1 = "IndexedCompiler$Line") (List.range 10) := ⟨⟨tb_pd13, rfl, rfl⟩, ⟨tb_pd0, rfl, rfl⟩, ⟨tb_pd14, rfl, rfl⟩, ⟨tb_pd14, rfl, rfl⟩, ⟨tb_pd14, rfl, rfl⟩, ⟨tb_pd0, rfl, rfl⟩, ⟨tb_pd0, rfl, rfl⟩, ⟨tb_pd0, rfl, rfl⟩, ⟨tb_pd0, rfl, rfl⟩, ⟨tb_pd0, rfl, rfl⟩, trivial⟩
def tb_N1 : List (List Char) := [['s', 'i', 'g', 'n', 's'], ['l', 'e', 'n', 'g', 't', 'h'], ['k', 'i', 'n', 'd', 's'], ['p', 'l', 'a', 'c', 'e', 's'], ['w', 'o', 'r', 't', 'h', 's'], ['m', 'a', 'n', 'y'], ['n', 'e', 'x', 't'], ['k', 'i', 'n', 'd'], ['a', 't'], ['w', 'o', 'r', 't', 'h']]
set_option maxRecDepth 20000 in
theorem tb_n1 : tb_N1.Nodup := by decide +kernel
set_option maxRecDepth 20000 in
theorem tb_m1 : mm_allL (fun j => (tb_N1[j]?).map String.ofList = some (tb_T1 j).2.1) (List.range 10) := ⟨rfl, rfl, rfl, rfl, rfl, rfl, rfl, rfl, rfl, rfl, trivial⟩
set_option maxRecDepth 20000 in
theorem tb_w2 : mm_allL (fun w => w ∈ tb_TB) (u_ws "IndexedCompiler$Reader" tb_T2 3) := ⟨(tb_i1 (List.mem_of_getElem? (i := 88) rfl) rfl),
  (tb_i1 (List.mem_of_getElem? (i := 90) rfl) rfl),
  (tb_i1 (List.mem_of_getElem? (i := 92) rfl) rfl),
  trivial⟩
set_option maxRecDepth 20000 in
theorem tb_f2 : mm_allL (fun j => parseFieldDescriptor (tb_T2 j).2.2.1 = some (tb_ft 2 j).1 ∧ (tb_T2 j).2.2.2 = (tb_ft 2 j).2 ∧ (tb_T2 j).1 = "IndexedCompiler$Reader") (List.range 3) := ⟨⟨tb_pd6, rfl, rfl⟩, ⟨tb_pd11, rfl, rfl⟩, ⟨tb_pd0, rfl, rfl⟩, trivial⟩
def tb_N2 : List (List Char) := [['l', 'i', 'n', 'e'], ['t', 'r', 'e', 'e'], ['w', 'r', 'o', 'n', 'g', 'A', 't']]
set_option maxRecDepth 20000 in
theorem tb_n2 : tb_N2.Nodup := by decide +kernel
set_option maxRecDepth 20000 in
theorem tb_m2 : mm_allL (fun j => (tb_N2[j]?).map String.ofList = some (tb_T2 j).2.1) (List.range 3) := ⟨rfl, rfl, rfl, trivial⟩
set_option maxRecDepth 20000 in
theorem tb_w3 : mm_allL (fun w => w ∈ tb_TB) (u_ws "IndexedCompiler$Solver" tb_T3 7) := ⟨(tb_i1 (List.mem_of_getElem? (i := 122) rfl) rfl),
  (tb_i1 (List.mem_of_getElem? (i := 124) rfl) rfl),
  (tb_i1 (List.mem_of_getElem? (i := 126) rfl) rfl),
  (tb_i1 (List.mem_of_getElem? (i := 128) rfl) rfl),
  (tb_i1 (List.mem_of_getElem? (i := 130) rfl) rfl),
  (tb_i1 (List.mem_of_getElem? (i := 132) rfl) rfl),
  (tb_i1 (List.mem_of_getElem? (i := 134) rfl) rfl),
  trivial⟩
set_option maxRecDepth 20000 in
theorem tb_f3 : mm_allL (fun j => parseFieldDescriptor (tb_T3 j).2.2.1 = some (tb_ft 3 j).1 ∧ (tb_T3 j).2.2.2 = (tb_ft 3 j).2 ∧ (tb_T3 j).1 = "IndexedCompiler$Solver") (List.range 7) := ⟨⟨tb_pd15, rfl, rfl⟩, ⟨tb_pd15, rfl, rfl⟩, ⟨tb_pd15, rfl, rfl⟩, ⟨tb_pd0, rfl, rfl⟩, ⟨tb_pd0, rfl, rfl⟩, ⟨tb_pd12, rfl, rfl⟩, ⟨tb_pd12, rfl, rfl⟩, trivial⟩
def tb_N3 : List (List Char) := [['r', 'o', 'w', 's'], ['o', 't', 'h', 'e', 'r', 's'], ['w', 'o', 'r', 'k'], ['k', 'e', 'p', 't'], ['w', 'i', 'd', 't', 'h'], ['t', 'o', 'o', 'M', 'u', 'c', 'h'], ['i', 's', 'F', 'a', 'l', 's', 'e']]
set_option maxRecDepth 20000 in
theorem tb_n3 : tb_N3.Nodup := by decide +kernel
set_option maxRecDepth 20000 in
theorem tb_m3 : mm_allL (fun j => (tb_N3[j]?).map String.ofList = some (tb_T3 j).2.1) (List.range 7) := ⟨rfl, rfl, rfl, rfl, rfl, rfl, rfl, trivial⟩
set_option maxRecDepth 20000 in
theorem tb_w4 : mm_allL (fun w => w ∈ tb_TB) (u_ws "IndexedCompiler$Expression" tb_T4 2) := ⟨(tb_i1 (List.mem_of_getElem? (i := 154) rfl) rfl),
  (tb_i1 (List.mem_of_getElem? (i := 156) rfl) rfl),
  trivial⟩
set_option maxRecDepth 20000 in
theorem tb_f4 : mm_allL (fun j => parseFieldDescriptor (tb_T4 j).2.2.1 = some (tb_ft 4 j).1 ∧ (tb_T4 j).2.2.2 = (tb_ft 4 j).2 ∧ (tb_T4 j).1 = "IndexedCompiler$Expression") (List.range 2) := ⟨⟨tb_pd15, rfl, rfl⟩, ⟨tb_pd12, rfl, rfl⟩, trivial⟩
def tb_N4 : List (List Char) := [['n', 'u', 'm', 'b', 'e', 'r', 's'], ['r', 'o', 'w']]
set_option maxRecDepth 20000 in
theorem tb_n4 : tb_N4.Nodup := by decide +kernel
set_option maxRecDepth 20000 in
theorem tb_m4 : mm_allL (fun j => (tb_N4[j]?).map String.ofList = some (tb_T4 j).2.1) (List.range 2) := ⟨rfl, rfl, trivial⟩
set_option maxRecDepth 20000 in
theorem tb_w5 : mm_allL (fun w => w ∈ tb_TB) (u_ws "IndexedCompiler$Ground" tb_T5 14) := ⟨(tb_i1 (List.mem_of_getElem? (i := 182) rfl) rfl),
  (tb_i1 (List.mem_of_getElem? (i := 184) rfl) rfl),
  (tb_i1 (List.mem_of_getElem? (i := 186) rfl) rfl),
  (tb_i1 (List.mem_of_getElem? (i := 188) rfl) rfl),
  (tb_i1 (List.mem_of_getElem? (i := 190) rfl) rfl),
  (tb_i1 (List.mem_of_getElem? (i := 192) rfl) rfl),
  (tb_i1 (List.mem_of_getElem? (i := 194) rfl) rfl),
  (tb_i1 (List.mem_of_getElem? (i := 196) rfl) rfl),
  (tb_i1 (List.mem_of_getElem? (i := 198) rfl) rfl),
  (tb_i1 (List.mem_of_getElem? (i := 200) rfl) rfl),
  (tb_i1 (List.mem_of_getElem? (i := 202) rfl) rfl),
  (tb_i1 (List.mem_of_getElem? (i := 204) rfl) rfl),
  (tb_i1 (List.mem_of_getElem? (i := 206) rfl) rfl),
  (tb_i1 (List.mem_of_getElem? (i := 208) rfl) rfl),
  trivial⟩
set_option maxRecDepth 20000 in
theorem tb_f5 : mm_allL (fun j => parseFieldDescriptor (tb_T5 j).2.2.1 = some (tb_ft 5 j).1 ∧ (tb_T5 j).2.2.2 = (tb_ft 5 j).2 ∧ (tb_T5 j).1 = "IndexedCompiler$Ground") (List.range 14) := ⟨⟨tb_pd10, rfl, rfl⟩, ⟨tb_pd15, rfl, rfl⟩, ⟨tb_pd0, rfl, rfl⟩, ⟨tb_pd14, rfl, rfl⟩, ⟨tb_pd0, rfl, rfl⟩, ⟨tb_pd16, rfl, rfl⟩, ⟨tb_pd0, rfl, rfl⟩, ⟨tb_pd0, rfl, rfl⟩, ⟨tb_pd0, rfl, rfl⟩, ⟨tb_pd0, rfl, rfl⟩, ⟨tb_pd0, rfl, rfl⟩, ⟨tb_pd12, rfl, rfl⟩, ⟨tb_pd0, rfl, rfl⟩, ⟨tb_pd0, rfl, rfl⟩, trivial⟩
def tb_N5 : List (List Char) := [['s', 'o', 'l', 'v', 'e', 'r'], ['f', 'a', 'c', 't', 'R', 'o', 'w', 's'], ['m', 'o', 's', 't', 'F', 'a', 'c', 't', 's'], ['g', 'o', 'a', 'l', 'R', 'o', 'w', 's'], ['m', 'o', 's', 't', 'G', 'o', 'a', 'l', 's'], ['p', 'e', 'n', 'd', 'i', 'n', 'g'], ['p', 'e', 'n', 'd', 'i', 'n', 'g', 's'], ['f', 'a', 'c', 't', 's'], ['v', 'a', 'r', 'i', 'a', 'b', 'l', 'e', 's'], ['g', 'o', 'a', 'l', 's'], ['p', 'r', 'o', 'v', 'e', 'd'], ['a', 'l', 'l', 'N', 'e', 'e', 'd', 'e', 'd', 'P', 'r', 'o', 'v', 'e', 'd'], ['f', 'a', 'u', 'l', 't'], ['f', 'a', 'u', 'l', 't', 'P', 'l', 'a', 'c', 'e']]
set_option maxRecDepth 20000 in
theorem tb_n5 : tb_N5.Nodup := by decide +kernel
set_option maxRecDepth 20000 in
theorem tb_m5 : mm_allL (fun j => (tb_N5[j]?).map String.ofList = some (tb_T5 j).2.1) (List.range 14) := ⟨rfl, rfl, rfl, rfl, rfl, rfl, rfl, rfl, rfl, rfl, rfl, rfl, rfl, rfl, trivial⟩
set_option maxRecDepth 20000 in
theorem tb_w6 : mm_allL (fun w => w ∈ tb_TB) (u_ws "IndexedCompiler$Checker" tb_T6 15) := ⟨(tb_i1 (List.mem_of_getElem? (i := 230) rfl) rfl),
  (tb_i1 (List.mem_of_getElem? (i := 232) rfl) rfl),
  (tb_i1 (List.mem_of_getElem? (i := 234) rfl) rfl),
  (tb_i1 (List.mem_of_getElem? (i := 236) rfl) rfl),
  (tb_i1 (List.mem_of_getElem? (i := 238) rfl) rfl),
  (tb_i2 (List.mem_of_getElem? (i := 0) rfl) rfl),
  (tb_i2 (List.mem_of_getElem? (i := 2) rfl) rfl),
  (tb_i2 (List.mem_of_getElem? (i := 4) rfl) rfl),
  (tb_i2 (List.mem_of_getElem? (i := 6) rfl) rfl),
  (tb_i2 (List.mem_of_getElem? (i := 8) rfl) rfl),
  (tb_i2 (List.mem_of_getElem? (i := 10) rfl) rfl),
  (tb_i2 (List.mem_of_getElem? (i := 12) rfl) rfl),
  (tb_i2 (List.mem_of_getElem? (i := 14) rfl) rfl),
  (tb_i2 (List.mem_of_getElem? (i := 16) rfl) rfl),
  (tb_i2 (List.mem_of_getElem? (i := 18) rfl) rfl),
  trivial⟩
set_option maxRecDepth 20000 in
theorem tb_f6 : mm_allL (fun j => parseFieldDescriptor (tb_T6 j).2.2.1 = some (tb_ft 6 j).1 ∧ (tb_T6 j).2.2.2 = (tb_ft 6 j).2 ∧ (tb_T6 j).1 = "IndexedCompiler$Checker") (List.range 15) := ⟨⟨tb_pd5, rfl, rfl⟩, ⟨tb_pd18, rfl, rfl⟩, ⟨tb_pd11, rfl, rfl⟩, ⟨tb_pd0, rfl, rfl⟩, ⟨tb_pd0, rfl, rfl⟩, ⟨tb_pd16, rfl, rfl⟩, ⟨tb_pd0, rfl, rfl⟩, ⟨tb_pd17, rfl, rfl⟩, ⟨tb_pd0, rfl, rfl⟩, ⟨tb_pd14, rfl, rfl⟩, ⟨tb_pd16, rfl, rfl⟩, ⟨tb_pd0, rfl, rfl⟩, ⟨tb_pd0, rfl, rfl⟩, ⟨tb_pd0, rfl, rfl⟩, ⟨tb_pd12, rfl, rfl⟩, trivial⟩
def tb_N6 : List (List Char) := [['g', 'r', 'o', 'u', 'n', 'd'], ['t', 'r', 'e', 'e', 's'], ['t', 'r', 'e', 'e'], ['f', 'u', 'n', 'c', 't', 'i', 'o', 'n', 's'], ['f', 'u', 'n', 'c', 't', 'i', 'o', 'n'], ['p', 'o', 'o', 'l'], ['t', 'a', 'k', 'e', 'n'], ['s', 'h', 'a', 'p', 'e', 's'], ['s', 'h', 'a', 'p', 'e', 's', 'T', 'a', 'k', 'e', 'n'], ['w', 'o', 'r', 'd', 's'], ['m', 'e', 'a', 'n', 'i', 'n', 'g', 's'], ['n', 'a', 'm', 'e', 's'], ['a', 'c', 'c', 'e', 's', 's', 'e', 's'], ['f', 'r', 'e', 'e'], ['a', 'c', 'c', 'e', 'p', 't', 'e', 'd']]
set_option maxRecDepth 20000 in
theorem tb_n6 : tb_N6.Nodup := by decide +kernel
set_option maxRecDepth 20000 in
theorem tb_m6 : mm_allL (fun j => (tb_N6[j]?).map String.ofList = some (tb_T6 j).2.1) (List.range 15) := ⟨rfl, rfl, rfl, rfl, rfl, rfl, rfl, rfl, rfl, rfl, rfl, rfl, rfl, rfl, rfl, trivial⟩
set_option maxRecDepth 20000 in
theorem tb_w7 : mm_allL (fun w => w ∈ tb_TB) (u_ws "IndexedCompiler$Coder" tb_T7 7) := ⟨(tb_i2 (List.mem_of_getElem? (i := 38) rfl) rfl),
  (tb_i2 (List.mem_of_getElem? (i := 40) rfl) rfl),
  (tb_i2 (List.mem_of_getElem? (i := 42) rfl) rfl),
  (tb_i2 (List.mem_of_getElem? (i := 44) rfl) rfl),
  (tb_i2 (List.mem_of_getElem? (i := 46) rfl) rfl),
  (tb_i2 (List.mem_of_getElem? (i := 48) rfl) rfl),
  (tb_i2 (List.mem_of_getElem? (i := 50) rfl) rfl),
  trivial⟩
set_option maxRecDepth 20000 in
theorem tb_f7 : mm_allL (fun j => parseFieldDescriptor (tb_T7 j).2.2.1 = some (tb_ft 7 j).1 ∧ (tb_T7 j).2.2.2 = (tb_ft 7 j).2 ∧ (tb_T7 j).1 = "IndexedCompiler$Coder") (List.range 7) := ⟨⟨tb_pd20, rfl, rfl⟩, ⟨tb_pd14, rfl, rfl⟩, ⟨tb_pd14, rfl, rfl⟩, ⟨tb_pd19, rfl, rfl⟩, ⟨tb_pd11, rfl, rfl⟩, ⟨tb_pd14, rfl, rfl⟩, ⟨tb_pd0, rfl, rfl⟩, trivial⟩
def tb_N7 : List (List Char) := [['c', 'o', 'd', 'e', 's'], ['l', 'e', 'n', 'g', 't', 'h', 's'], ['p', 'a', 'r', 'a', 'm', 'e', 't', 'e', 'r', 's'], ['a', 'n', 's', 'w', 'e', 'r', 's', 'R', 'o', 'w'], ['t', 'r', 'e', 'e'], ['c', 'o', 'd', 'e'], ['l', 'e', 'n', 'g', 't', 'h']]
set_option maxRecDepth 20000 in
theorem tb_n7 : tb_N7.Nodup := by decide +kernel
set_option maxRecDepth 20000 in
theorem tb_m7 : mm_allL (fun j => (tb_N7[j]?).map String.ofList = some (tb_T7 j).2.1) (List.range 7) := ⟨rfl, rfl, rfl, rfl, rfl, rfl, rfl, trivial⟩
set_option maxRecDepth 20000 in
theorem tb_w8 : mm_allL (fun w => w ∈ tb_TB) (u_ws "IndexedCompiler$Slots" tb_T8 4) := ⟨(tb_i2 (List.mem_of_getElem? (i := 64) rfl) rfl),
  (tb_i2 (List.mem_of_getElem? (i := 66) rfl) rfl),
  (tb_i2 (List.mem_of_getElem? (i := 68) rfl) rfl),
  (tb_i2 (List.mem_of_getElem? (i := 70) rfl) rfl),
  trivial⟩
set_option maxRecDepth 20000 in
theorem tb_f8 : mm_allL (fun j => parseFieldDescriptor (tb_T8 j).2.2.1 = some (tb_ft 8 j).1 ∧ (tb_T8 j).2.2.2 = (tb_ft 8 j).2 ∧ (tb_T8 j).1 = "IndexedCompiler$Slots") (List.range 4) := ⟨⟨tb_pd19, rfl, rfl⟩, ⟨tb_pd14, rfl, rfl⟩, ⟨tb_pd14, rfl, rfl⟩, ⟨tb_pd14, rfl, rfl⟩, trivial⟩
def tb_N8 : List (List Char) := [['i', 's', 'R', 'o', 'w'], ['s', 'i', 'z', 'e', 's'], ['c', 'e', 'l', 'l', 's'], ['v', 'a', 'l', 'u', 'e', 's']]
set_option maxRecDepth 20000 in
theorem tb_n8 : tb_N8.Nodup := by decide +kernel
set_option maxRecDepth 20000 in
theorem tb_m8 : mm_allL (fun j => (tb_N8[j]?).map String.ofList = some (tb_T8 j).2.1) (List.range 4) := ⟨rfl, rfl, rfl, rfl, trivial⟩
set_option maxRecDepth 20000 in
theorem tb_w9 : mm_allL (fun w => w ∈ tb_TB) (u_ws "IndexedCompiler$Machine" tb_T9 14) := ⟨(tb_i2 (List.mem_of_getElem? (i := 93) rfl) rfl),
  (tb_i2 (List.mem_of_getElem? (i := 95) rfl) rfl),
  (tb_i2 (List.mem_of_getElem? (i := 97) rfl) rfl),
  (tb_i2 (List.mem_of_getElem? (i := 99) rfl) rfl),
  (tb_i2 (List.mem_of_getElem? (i := 101) rfl) rfl),
  (tb_i2 (List.mem_of_getElem? (i := 103) rfl) rfl),
  (tb_i2 (List.mem_of_getElem? (i := 105) rfl) rfl),
  (tb_i2 (List.mem_of_getElem? (i := 107) rfl) rfl),
  (tb_i2 (List.mem_of_getElem? (i := 109) rfl) rfl),
  (tb_i2 (List.mem_of_getElem? (i := 111) rfl) rfl),
  (tb_i2 (List.mem_of_getElem? (i := 113) rfl) rfl),
  (tb_i2 (List.mem_of_getElem? (i := 115) rfl) rfl),
  (tb_i2 (List.mem_of_getElem? (i := 117) rfl) rfl),
  (tb_i2 (List.mem_of_getElem? (i := 119) rfl) rfl),
  trivial⟩
set_option maxRecDepth 20000 in
theorem tb_f9 : mm_allL (fun j => parseFieldDescriptor (tb_T9 j).2.2.1 = some (tb_ft 9 j).1 ∧ (tb_T9 j).2.2.2 = (tb_ft 9 j).2 ∧ (tb_T9 j).1 = "IndexedCompiler$Machine") (List.range 14) := ⟨⟨tb_pd14, rfl, rfl⟩, ⟨tb_pd14, rfl, rfl⟩, ⟨tb_pd14, rfl, rfl⟩, ⟨tb_pd14, rfl, rfl⟩, ⟨tb_pd14, rfl, rfl⟩, ⟨tb_pd14, rfl, rfl⟩, ⟨tb_pd14, rfl, rfl⟩, ⟨tb_pd0, rfl, rfl⟩, ⟨tb_pd0, rfl, rfl⟩, ⟨tb_pd0, rfl, rfl⟩, ⟨tb_pd0, rfl, rfl⟩, ⟨tb_pd0, rfl, rfl⟩, ⟨tb_pd0, rfl, rfl⟩, ⟨tb_pd3, rfl, rfl⟩, trivial⟩
def tb_N9 : List (List Char) := [['c', 'e', 'l', 'l', 's'], ['s', 't', 'a', 'c', 'k'], ['l', 'o', 'c', 'a', 'l', 's'], ['b', 'a', 'c', 'k', 'T', 'o'], ['b', 'a', 'c', 'k', 'I', 'n'], ['p', 'r', 'i', 'n', 't', 's'], ['r', 'e', 'p', 'o', 'r', 't', 's'], ['h', 'e', 'i', 'g', 'h', 't'], ['d', 'e', 'p', 't', 'h'], ['f', 'u', 'n', 'c', 't', 'i', 'o', 'n'], ['n', 'e', 'x', 't'], ['h', 'o', 'w'], ['a', 'n', 's', 'w', 'e', 'r', 'R', 'o', 'w'], ['c', 'o', 'd', 'e', 'r']]
set_option maxRecDepth 20000 in
theorem tb_n9 : tb_N9.Nodup := by decide +kernel
set_option maxRecDepth 20000 in
theorem tb_m9 : mm_allL (fun j => (tb_N9[j]?).map String.ofList = some (tb_T9 j).2.1) (List.range 14) := ⟨rfl, rfl, rfl, rfl, rfl, rfl, rfl, rfl, rfl, rfl, rfl, rfl, rfl, rfl, trivial⟩
set_option maxRecDepth 20000 in
theorem tb_w10 : mm_allL (fun w => w ∈ tb_TB) (u_ws "IndexedCompiler$Tree" tb_T10 11) := ⟨(tb_i2 (List.mem_of_getElem? (i := 221) rfl) rfl),
  (tb_i2 (List.mem_of_getElem? (i := 223) rfl) rfl),
  (tb_i2 (List.mem_of_getElem? (i := 225) rfl) rfl),
  (tb_i2 (List.mem_of_getElem? (i := 227) rfl) rfl),
  (tb_i2 (List.mem_of_getElem? (i := 229) rfl) rfl),
  (tb_i2 (List.mem_of_getElem? (i := 231) rfl) rfl),
  (tb_i2 (List.mem_of_getElem? (i := 233) rfl) rfl),
  (tb_i2 (List.mem_of_getElem? (i := 235) rfl) rfl),
  (tb_i2 (List.mem_of_getElem? (i := 237) rfl) rfl),
  (tb_i2 (List.mem_of_getElem? (i := 239) rfl) rfl),
  (tb_i3 (List.mem_of_getElem? (i := 1) rfl) rfl),
  trivial⟩
set_option maxRecDepth 20000 in
theorem tb_f10 : mm_allL (fun j => parseFieldDescriptor (tb_T10 j).2.2.1 = some (tb_ft 10 j).1 ∧ (tb_T10 j).2.2.2 = (tb_ft 10 j).2 ∧ (tb_T10 j).1 = "IndexedCompiler$Tree") (List.range 11) := ⟨⟨tb_pd14, rfl, rfl⟩, ⟨tb_pd0, rfl, rfl⟩, ⟨tb_pd0, rfl, rfl⟩, ⟨tb_pd0, rfl, rfl⟩, ⟨tb_pd0, rfl, rfl⟩, ⟨tb_pd0, rfl, rfl⟩, ⟨tb_pd0, rfl, rfl⟩, ⟨tb_pd0, rfl, rfl⟩, ⟨tb_pd0, rfl, rfl⟩, ⟨tb_pd0, rfl, rfl⟩, ⟨tb_pd0, rfl, rfl⟩, trivial⟩
def tb_N10 : List (List Char) := [['n', 'o', 'd', 'e', 's'], ['s', 'i', 'z', 'e'], ['n', 'a', 'm', 'e', 'd'], ['n', 'a', 'm', 'e', 'd', 'A', 't'], ['i', 'n', 'd', 'e', 'x', 'N', 'a', 'm', 'e', 's'], ['i', 'n', 'd', 'e', 'x', 'C', 'o', 'u', 'n', 't'], ['p', 'r', 'o', 'p', 's'], ['p', 'a', 'r', 'a', 'm', 'e', 't', 'e', 'r', 's'], ['p', 'a', 'r', 'a', 'm', 'e', 't', 'e', 'r', 'C', 'o', 'u', 'n', 't'], ['r', 'e', 's', 'u', 'l', 't'], ['s', 't', 'e', 'p', 's']]
set_option maxRecDepth 20000 in
theorem tb_n10 : tb_N10.Nodup := by decide +kernel
set_option maxRecDepth 20000 in
theorem tb_m10 : mm_allL (fun j => (tb_N10[j]?).map String.ofList = some (tb_T10 j).2.1) (List.range 11) := ⟨rfl, rfl, rfl, rfl, rfl, rfl, rfl, rfl, rfl, rfl, rfl, trivial⟩
set_option maxRecDepth 20000 in
theorem tb_w11 : mm_allL (fun w => w ∈ tb_TB) (u_ws "IndexedCompiler$Shape" tb_T11 5) := ⟨(tb_i4 (List.mem_of_getElem? (i := 175) rfl) rfl),
  (tb_i4 (List.mem_of_getElem? (i := 177) rfl) rfl),
  (tb_i4 (List.mem_of_getElem? (i := 179) rfl) rfl),
  (tb_i4 (List.mem_of_getElem? (i := 181) rfl) rfl),
  (tb_i4 (List.mem_of_getElem? (i := 183) rfl) rfl),
  trivial⟩
set_option maxRecDepth 20000 in
theorem tb_f11 : mm_allL (fun j => parseFieldDescriptor (tb_T11 j).2.2.1 = some (tb_ft 11 j).1 ∧ (tb_T11 j).2.2.2 = (tb_ft 11 j).2 ∧ (tb_T11 j).1 = "IndexedCompiler$Shape") (List.range 5) := ⟨⟨tb_pd0, rfl, rfl⟩, ⟨tb_pd4, rfl, rfl⟩, ⟨tb_pd0, rfl, rfl⟩, ⟨tb_pd14, rfl, rfl⟩, ⟨tb_pd16, rfl, rfl⟩, trivial⟩
def tb_N11 : List (List Char) := [['s', 'o', 'r', 't'], ['i', 'n', 'd', 'e', 'x'], ['p', 'r', 'o', 'p', 's'], ['r', 'e', 'l', 'a', 't', 'i', 'o', 'n', 's'], ['g', 'a', 'p', 's']]
set_option maxRecDepth 20000 in
theorem tb_n11 : tb_N11.Nodup := by decide +kernel
set_option maxRecDepth 20000 in
theorem tb_m11 : mm_allL (fun j => (tb_N11[j]?).map String.ofList = some (tb_T11 j).2.1) (List.range 5) := ⟨rfl, rfl, rfl, rfl, rfl, trivial⟩
set_option maxRecDepth 20000 in
theorem tb_w12 : mm_allL (fun w => w ∈ tb_TB) (u_ws "IndexedCompilerModel" tb_T12 145) := ⟨(tb_i8 (List.mem_of_getElem? (i := 42) rfl) rfl),
  (tb_i8 (List.mem_of_getElem? (i := 44) rfl) rfl),
  (tb_i8 (List.mem_of_getElem? (i := 46) rfl) rfl),
  (tb_i8 (List.mem_of_getElem? (i := 48) rfl) rfl),
  (tb_i8 (List.mem_of_getElem? (i := 50) rfl) rfl),
  (tb_i8 (List.mem_of_getElem? (i := 52) rfl) rfl),
  (tb_i8 (List.mem_of_getElem? (i := 54) rfl) rfl),
  (tb_i8 (List.mem_of_getElem? (i := 56) rfl) rfl),
  (tb_i8 (List.mem_of_getElem? (i := 58) rfl) rfl),
  (tb_i8 (List.mem_of_getElem? (i := 60) rfl) rfl),
  (tb_i8 (List.mem_of_getElem? (i := 62) rfl) rfl),
  (tb_i8 (List.mem_of_getElem? (i := 64) rfl) rfl),
  (tb_i8 (List.mem_of_getElem? (i := 66) rfl) rfl),
  (tb_i8 (List.mem_of_getElem? (i := 68) rfl) rfl),
  (tb_i8 (List.mem_of_getElem? (i := 70) rfl) rfl),
  (tb_i8 (List.mem_of_getElem? (i := 72) rfl) rfl),
  (tb_i8 (List.mem_of_getElem? (i := 74) rfl) rfl),
  (tb_i8 (List.mem_of_getElem? (i := 76) rfl) rfl),
  (tb_i8 (List.mem_of_getElem? (i := 78) rfl) rfl),
  (tb_i8 (List.mem_of_getElem? (i := 80) rfl) rfl),
  (tb_i8 (List.mem_of_getElem? (i := 82) rfl) rfl),
  (tb_i8 (List.mem_of_getElem? (i := 84) rfl) rfl),
  (tb_i8 (List.mem_of_getElem? (i := 86) rfl) rfl),
  (tb_i8 (List.mem_of_getElem? (i := 88) rfl) rfl),
  (tb_i8 (List.mem_of_getElem? (i := 90) rfl) rfl),
  (tb_i8 (List.mem_of_getElem? (i := 92) rfl) rfl),
  (tb_i8 (List.mem_of_getElem? (i := 94) rfl) rfl),
  (tb_i8 (List.mem_of_getElem? (i := 96) rfl) rfl),
  (tb_i8 (List.mem_of_getElem? (i := 98) rfl) rfl),
  (tb_i8 (List.mem_of_getElem? (i := 100) rfl) rfl),
  (tb_i8 (List.mem_of_getElem? (i := 102) rfl) rfl),
  (tb_i8 (List.mem_of_getElem? (i := 104) rfl) rfl),
  (tb_i8 (List.mem_of_getElem? (i := 106) rfl) rfl),
  (tb_i8 (List.mem_of_getElem? (i := 108) rfl) rfl),
  (tb_i8 (List.mem_of_getElem? (i := 110) rfl) rfl),
  (tb_i8 (List.mem_of_getElem? (i := 112) rfl) rfl),
  (tb_i8 (List.mem_of_getElem? (i := 114) rfl) rfl),
  (tb_i8 (List.mem_of_getElem? (i := 116) rfl) rfl),
  (tb_i8 (List.mem_of_getElem? (i := 118) rfl) rfl),
  (tb_i8 (List.mem_of_getElem? (i := 120) rfl) rfl),
  (tb_i8 (List.mem_of_getElem? (i := 122) rfl) rfl),
  (tb_i8 (List.mem_of_getElem? (i := 124) rfl) rfl),
  (tb_i8 (List.mem_of_getElem? (i := 126) rfl) rfl),
  (tb_i8 (List.mem_of_getElem? (i := 128) rfl) rfl),
  (tb_i8 (List.mem_of_getElem? (i := 130) rfl) rfl),
  (tb_i8 (List.mem_of_getElem? (i := 132) rfl) rfl),
  (tb_i8 (List.mem_of_getElem? (i := 134) rfl) rfl),
  (tb_i8 (List.mem_of_getElem? (i := 136) rfl) rfl),
  (tb_i8 (List.mem_of_getElem? (i := 138) rfl) rfl),
  (tb_i8 (List.mem_of_getElem? (i := 140) rfl) rfl),
  (tb_i8 (List.mem_of_getElem? (i := 142) rfl) rfl),
  (tb_i8 (List.mem_of_getElem? (i := 144) rfl) rfl),
  (tb_i8 (List.mem_of_getElem? (i := 146) rfl) rfl),
  (tb_i8 (List.mem_of_getElem? (i := 148) rfl) rfl),
  (tb_i8 (List.mem_of_getElem? (i := 150) rfl) rfl),
  (tb_i8 (List.mem_of_getElem? (i := 152) rfl) rfl),
  (tb_i8 (List.mem_of_getElem? (i := 154) rfl) rfl),
  (tb_i8 (List.mem_of_getElem? (i := 156) rfl) rfl),
  (tb_i8 (List.mem_of_getElem? (i := 158) rfl) rfl),
  (tb_i8 (List.mem_of_getElem? (i := 160) rfl) rfl),
  (tb_i8 (List.mem_of_getElem? (i := 162) rfl) rfl),
  (tb_i8 (List.mem_of_getElem? (i := 164) rfl) rfl),
  (tb_i8 (List.mem_of_getElem? (i := 166) rfl) rfl),
  (tb_i8 (List.mem_of_getElem? (i := 168) rfl) rfl),
  (tb_i8 (List.mem_of_getElem? (i := 170) rfl) rfl),
  (tb_i8 (List.mem_of_getElem? (i := 172) rfl) rfl),
  (tb_i8 (List.mem_of_getElem? (i := 174) rfl) rfl),
  (tb_i8 (List.mem_of_getElem? (i := 176) rfl) rfl),
  (tb_i8 (List.mem_of_getElem? (i := 178) rfl) rfl),
  (tb_i8 (List.mem_of_getElem? (i := 180) rfl) rfl),
  (tb_i8 (List.mem_of_getElem? (i := 182) rfl) rfl),
  (tb_i8 (List.mem_of_getElem? (i := 184) rfl) rfl),
  (tb_i8 (List.mem_of_getElem? (i := 186) rfl) rfl),
  (tb_i8 (List.mem_of_getElem? (i := 188) rfl) rfl),
  (tb_i8 (List.mem_of_getElem? (i := 190) rfl) rfl),
  (tb_i8 (List.mem_of_getElem? (i := 192) rfl) rfl),
  (tb_i8 (List.mem_of_getElem? (i := 194) rfl) rfl),
  (tb_i8 (List.mem_of_getElem? (i := 196) rfl) rfl),
  (tb_i8 (List.mem_of_getElem? (i := 198) rfl) rfl),
  (tb_i8 (List.mem_of_getElem? (i := 200) rfl) rfl),
  (tb_i8 (List.mem_of_getElem? (i := 202) rfl) rfl),
  (tb_i8 (List.mem_of_getElem? (i := 204) rfl) rfl),
  (tb_i8 (List.mem_of_getElem? (i := 206) rfl) rfl),
  (tb_i8 (List.mem_of_getElem? (i := 208) rfl) rfl),
  (tb_i8 (List.mem_of_getElem? (i := 210) rfl) rfl),
  (tb_i8 (List.mem_of_getElem? (i := 212) rfl) rfl),
  (tb_i8 (List.mem_of_getElem? (i := 214) rfl) rfl),
  (tb_i8 (List.mem_of_getElem? (i := 216) rfl) rfl),
  (tb_i8 (List.mem_of_getElem? (i := 218) rfl) rfl),
  (tb_i8 (List.mem_of_getElem? (i := 220) rfl) rfl),
  (tb_i8 (List.mem_of_getElem? (i := 222) rfl) rfl),
  (tb_i8 (List.mem_of_getElem? (i := 224) rfl) rfl),
  (tb_i8 (List.mem_of_getElem? (i := 226) rfl) rfl),
  (tb_i8 (List.mem_of_getElem? (i := 228) rfl) rfl),
  (tb_i8 (List.mem_of_getElem? (i := 230) rfl) rfl),
  (tb_i8 (List.mem_of_getElem? (i := 232) rfl) rfl),
  (tb_i8 (List.mem_of_getElem? (i := 234) rfl) rfl),
  (tb_i8 (List.mem_of_getElem? (i := 236) rfl) rfl),
  (tb_i8 (List.mem_of_getElem? (i := 238) rfl) rfl),
  (tb_i9 (List.mem_of_getElem? (i := 0) rfl) rfl),
  (tb_i9 (List.mem_of_getElem? (i := 2) rfl) rfl),
  (tb_i9 (List.mem_of_getElem? (i := 4) rfl) rfl),
  (tb_i9 (List.mem_of_getElem? (i := 6) rfl) rfl),
  (tb_i9 (List.mem_of_getElem? (i := 8) rfl) rfl),
  (tb_i9 (List.mem_of_getElem? (i := 10) rfl) rfl),
  (tb_i9 (List.mem_of_getElem? (i := 12) rfl) rfl),
  (tb_i9 (List.mem_of_getElem? (i := 14) rfl) rfl),
  (tb_i9 (List.mem_of_getElem? (i := 16) rfl) rfl),
  (tb_i9 (List.mem_of_getElem? (i := 18) rfl) rfl),
  (tb_i9 (List.mem_of_getElem? (i := 20) rfl) rfl),
  (tb_i9 (List.mem_of_getElem? (i := 22) rfl) rfl),
  (tb_i9 (List.mem_of_getElem? (i := 24) rfl) rfl),
  (tb_i9 (List.mem_of_getElem? (i := 26) rfl) rfl),
  (tb_i9 (List.mem_of_getElem? (i := 28) rfl) rfl),
  (tb_i9 (List.mem_of_getElem? (i := 30) rfl) rfl),
  (tb_i9 (List.mem_of_getElem? (i := 32) rfl) rfl),
  (tb_i9 (List.mem_of_getElem? (i := 34) rfl) rfl),
  (tb_i9 (List.mem_of_getElem? (i := 36) rfl) rfl),
  (tb_i9 (List.mem_of_getElem? (i := 38) rfl) rfl),
  (tb_i9 (List.mem_of_getElem? (i := 40) rfl) rfl),
  (tb_i9 (List.mem_of_getElem? (i := 42) rfl) rfl),
  (tb_i9 (List.mem_of_getElem? (i := 44) rfl) rfl),
  (tb_i9 (List.mem_of_getElem? (i := 46) rfl) rfl),
  (tb_i9 (List.mem_of_getElem? (i := 48) rfl) rfl),
  (tb_i9 (List.mem_of_getElem? (i := 50) rfl) rfl),
  (tb_i9 (List.mem_of_getElem? (i := 52) rfl) rfl),
  (tb_i9 (List.mem_of_getElem? (i := 54) rfl) rfl),
  (tb_i9 (List.mem_of_getElem? (i := 56) rfl) rfl),
  (tb_i9 (List.mem_of_getElem? (i := 58) rfl) rfl),
  (tb_i9 (List.mem_of_getElem? (i := 60) rfl) rfl),
  (tb_i9 (List.mem_of_getElem? (i := 62) rfl) rfl),
  (tb_i9 (List.mem_of_getElem? (i := 64) rfl) rfl),
  (tb_i9 (List.mem_of_getElem? (i := 66) rfl) rfl),
  (tb_i9 (List.mem_of_getElem? (i := 68) rfl) rfl),
  (tb_i9 (List.mem_of_getElem? (i := 70) rfl) rfl),
  (tb_i9 (List.mem_of_getElem? (i := 72) rfl) rfl),
  (tb_i9 (List.mem_of_getElem? (i := 74) rfl) rfl),
  (tb_i9 (List.mem_of_getElem? (i := 76) rfl) rfl),
  (tb_i9 (List.mem_of_getElem? (i := 78) rfl) rfl),
  (tb_i9 (List.mem_of_getElem? (i := 80) rfl) rfl),
  (tb_i9 (List.mem_of_getElem? (i := 82) rfl) rfl),
  (tb_i9 (List.mem_of_getElem? (i := 84) rfl) rfl),
  (tb_i9 (List.mem_of_getElem? (i := 86) rfl) rfl),
  (tb_i9 (List.mem_of_getElem? (i := 88) rfl) rfl),
  (tb_i9 (List.mem_of_getElem? (i := 90) rfl) rfl),
  trivial⟩
set_option maxRecDepth 20000 in
theorem tb_f12 : mm_allL (fun j => parseFieldDescriptor (tb_T12 j).2.2.1 = some (tb_ft 12 j).1 ∧ (tb_T12 j).2.2.2 = (tb_ft 12 j).2 ∧ (tb_T12 j).1 = "IndexedCompilerModel") (List.range 145) := ⟨⟨tb_pd0, rfl, rfl⟩, ⟨tb_pd13, rfl, rfl⟩, ⟨tb_pd0, rfl, rfl⟩, ⟨tb_pd14, rfl, rfl⟩, ⟨tb_pd14, rfl, rfl⟩, ⟨tb_pd14, rfl, rfl⟩, ⟨tb_pd0, rfl, rfl⟩, ⟨tb_pd0, rfl, rfl⟩, ⟨tb_pd12, rfl, rfl⟩, ⟨tb_pd0, rfl, rfl⟩, ⟨tb_pd0, rfl, rfl⟩, ⟨tb_pd14, rfl, rfl⟩, ⟨tb_pd14, rfl, rfl⟩, ⟨tb_pd14, rfl, rfl⟩, ⟨tb_pd14, rfl, rfl⟩, ⟨tb_pd14, rfl, rfl⟩, ⟨tb_pd14, rfl, rfl⟩, ⟨tb_pd14, rfl, rfl⟩, ⟨tb_pd14, rfl, rfl⟩, ⟨tb_pd14, rfl, rfl⟩, ⟨tb_pd14, rfl, rfl⟩, ⟨tb_pd0, rfl, rfl⟩, ⟨tb_pd14, rfl, rfl⟩, ⟨tb_pd14, rfl, rfl⟩, ⟨tb_pd14, rfl, rfl⟩, ⟨tb_pd14, rfl, rfl⟩, ⟨tb_pd14, rfl, rfl⟩, ⟨tb_pd14, rfl, rfl⟩, ⟨tb_pd14, rfl, rfl⟩, ⟨tb_pd19, rfl, rfl⟩, ⟨tb_pd0, rfl, rfl⟩, ⟨tb_pd14, rfl, rfl⟩, ⟨tb_pd14, rfl, rfl⟩, ⟨tb_pd14, rfl, rfl⟩, ⟨tb_pd0, rfl, rfl⟩, ⟨tb_pd14, rfl, rfl⟩, ⟨tb_pd14, rfl, rfl⟩, ⟨tb_pd14, rfl, rfl⟩, ⟨tb_pd0, rfl, rfl⟩, ⟨tb_pd14, rfl, rfl⟩, ⟨tb_pd14, rfl, rfl⟩, ⟨tb_pd14, rfl, rfl⟩, ⟨tb_pd0, rfl, rfl⟩, ⟨tb_pd14, rfl, rfl⟩, ⟨tb_pd14, rfl, rfl⟩, ⟨tb_pd14, rfl, rfl⟩, ⟨tb_pd14, rfl, rfl⟩, ⟨tb_pd14, rfl, rfl⟩, ⟨tb_pd0, rfl, rfl⟩, ⟨tb_pd14, rfl, rfl⟩, ⟨tb_pd0, rfl, rfl⟩, ⟨tb_pd0, rfl, rfl⟩, ⟨tb_pd14, rfl, rfl⟩, ⟨tb_pd14, rfl, rfl⟩, ⟨tb_pd14, rfl, rfl⟩, ⟨tb_pd14, rfl, rfl⟩, ⟨tb_pd14, rfl, rfl⟩, ⟨tb_pd14, rfl, rfl⟩, ⟨tb_pd14, rfl, rfl⟩, ⟨tb_pd14, rfl, rfl⟩, ⟨tb_pd14, rfl, rfl⟩, ⟨tb_pd0, rfl, rfl⟩, ⟨tb_pd0, rfl, rfl⟩, ⟨tb_pd0, rfl, rfl⟩, ⟨tb_pd0, rfl, rfl⟩, ⟨tb_pd0, rfl, rfl⟩, ⟨tb_pd0, rfl, rfl⟩, ⟨tb_pd12, rfl, rfl⟩, ⟨tb_pd14, rfl, rfl⟩, ⟨tb_pd14, rfl, rfl⟩, ⟨tb_pd14, rfl, rfl⟩, ⟨tb_pd19, rfl, rfl⟩, ⟨tb_pd14, rfl, rfl⟩, ⟨tb_pd14, rfl, rfl⟩, ⟨tb_pd0, rfl, rfl⟩, ⟨tb_pd0, rfl, rfl⟩, ⟨tb_pd0, rfl, rfl⟩, ⟨tb_pd0, rfl, rfl⟩, ⟨tb_pd15, rfl, rfl⟩, ⟨tb_pd0, rfl, rfl⟩, ⟨tb_pd14, rfl, rfl⟩, ⟨tb_pd14, rfl, rfl⟩, ⟨tb_pd15, rfl, rfl⟩, ⟨tb_pd0, rfl, rfl⟩, ⟨tb_pd15, rfl, rfl⟩, ⟨tb_pd19, rfl, rfl⟩, ⟨tb_pd15, rfl, rfl⟩, ⟨tb_pd15, rfl, rfl⟩, ⟨tb_pd15, rfl, rfl⟩, ⟨tb_pd15, rfl, rfl⟩, ⟨tb_pd0, rfl, rfl⟩, ⟨tb_pd0, rfl, rfl⟩, ⟨tb_pd0, rfl, rfl⟩, ⟨tb_pd1, rfl, rfl⟩, ⟨tb_pd0, rfl, rfl⟩, ⟨tb_pd0, rfl, rfl⟩, ⟨tb_pd0, rfl, rfl⟩, ⟨tb_pd15, rfl, rfl⟩, ⟨tb_pd0, rfl, rfl⟩, ⟨tb_pd15, rfl, rfl⟩, ⟨tb_pd15, rfl, rfl⟩, ⟨tb_pd12, rfl, rfl⟩, ⟨tb_pd0, rfl, rfl⟩, ⟨tb_pd14, rfl, rfl⟩, ⟨tb_pd14, rfl, rfl⟩, ⟨tb_pd14, rfl, rfl⟩, ⟨tb_pd14, rfl, rfl⟩, ⟨tb_pd14, rfl, rfl⟩, ⟨tb_pd14, rfl, rfl⟩, ⟨tb_pd14, rfl, rfl⟩, ⟨tb_pd14, rfl, rfl⟩, ⟨tb_pd14, rfl, rfl⟩, ⟨tb_pd0, rfl, rfl⟩, ⟨tb_pd0, rfl, rfl⟩, ⟨tb_pd14, rfl, rfl⟩, ⟨tb_pd14, rfl, rfl⟩, ⟨tb_pd14, rfl, rfl⟩, ⟨tb_pd19, rfl, rfl⟩, ⟨tb_pd0, rfl, rfl⟩, ⟨tb_pd0, rfl, rfl⟩, ⟨tb_pd14, rfl, rfl⟩, ⟨tb_pd19, rfl, rfl⟩, ⟨tb_pd14, rfl, rfl⟩, ⟨tb_pd14, rfl, rfl⟩, ⟨tb_pd14, rfl, rfl⟩, ⟨tb_pd14, rfl, rfl⟩, ⟨tb_pd0, rfl, rfl⟩, ⟨tb_pd14, rfl, rfl⟩, ⟨tb_pd0, rfl, rfl⟩, ⟨tb_pd0, rfl, rfl⟩, ⟨tb_pd14, rfl, rfl⟩, ⟨tb_pd14, rfl, rfl⟩, ⟨tb_pd14, rfl, rfl⟩, ⟨tb_pd14, rfl, rfl⟩, ⟨tb_pd0, rfl, rfl⟩, ⟨tb_pd0, rfl, rfl⟩, ⟨tb_pd0, rfl, rfl⟩, ⟨tb_pd0, rfl, rfl⟩, ⟨tb_pd0, rfl, rfl⟩, ⟨tb_pd0, rfl, rfl⟩, ⟨tb_pd0, rfl, rfl⟩, ⟨tb_pd0, rfl, rfl⟩, ⟨tb_pd14, rfl, rfl⟩, ⟨tb_pd0, rfl, rfl⟩, ⟨tb_pd15, rfl, rfl⟩, trivial⟩
def tb_N12 : List (List Char) := [['t', 'h', 'r', 'o', 'w', 'n'], ['l', 'i', 'n', 'e'], ['l', 'i', 'n', 'e', 'S', 'i', 'z', 'e'], ['t', 'o', 'k', 'e', 'n', 'K', 'i', 'n', 'd'], ['t', 'o', 'k', 'e', 'n', 'A', 't'], ['t', 'o', 'k', 'e', 'n', 'C', 'o', 'd', 'e'], ['t', 'o', 'k', 'e', 'n'], ['f', 'a', 'u', 'l', 't', 'P', 'l', 'a', 'c', 'e'], ['i', 's', 'W', 'r', 'o', 'n', 'g'], ['w', 'r', 'o', 'n', 'g', 'A', 't'], ['f', 'u', 'n', 'c', 't', 'i', 'o', 'n', 's'], ['f', 'u', 'n', 'c', 't', 'i', 'o', 'n', 'N', 'a', 'm', 'e'], ['i', 'n', 'd', 'e', 'x', 'N', 'a', 'm', 'e', 's'], ['i', 'n', 'd', 'e', 'x', 'M', 'a', 'n', 'y'], ['o', 'w', 'n', 'P', 'r', 'o', 'p', 's'], ['o', 'w', 'n', 'M', 'a', 'n', 'y'], ['p', 'a', 'r', 'a', 'm', 'N', 'a', 'm', 'e', 's'], ['p', 'a', 'r', 'a', 'm', 'T', 'y', 'p', 'e', 's'], ['p', 'a', 'r', 'a', 'm', 'M', 'a', 'n', 'y'], ['r', 'e', 's', 'u', 'l', 't', 'T', 'y', 'p', 'e'], ['b', 'o', 'd', 'y'], ['n', 'o', 'd', 'e', 's'], ['n', 'o', 'd', 'e', 'K', 'i', 'n', 'd'], ['n', 'o', 'd', 'e', 'A'], ['n', 'o', 'd', 'e', 'B'], ['n', 'o', 'd', 'e', 'C'], ['n', 'o', 'd', 'e', 'D'], ['n', 'o', 'd', 'e', 'E'], ['n', 'o', 'd', 'e', 'A', 't'], ['n', 'o', 'd', 'e', 'F', 'r', 'e', 'e'], ['t', 'e', 'r', 'm', 's'], ['t', 'e', 'r', 'm', 'T', 'i', 'm', 'e', 's'], ['t', 'e', 'r', 'm', 'N', 'a', 'm', 'e'], ['t', 'e', 'r', 'm', 'A', 't'], ['i', 'n', 'd', 'e', 'x', 'e', 's'], ['i', 'n', 'd', 'e', 'x', 'F', 'i', 'r', 's', 't'], ['i', 'n', 'd', 'e', 'x', 'T', 'e', 'r', 'm', 's'], ['i', 'n', 'd', 'e', 'x', 'A', 't'], ['p', 'r', 'o', 'p', 's'], ['p', 'r', 'o', 'p', 'L', 'e', 'f', 't'], ['p', 'r', 'o', 'p', 'R', 'e', 'l', 'a', 't', 'i', 'o', 'n'], ['p', 'r', 'o', 'p', 'R', 'i', 'g', 'h', 't'], ['t', 'y', 'p', 'e', 's'], ['t', 'y', 'p', 'e', 'K', 'i', 'n', 'd'], ['t', 'y', 'p', 'e', 'I', 'n', 'd', 'e', 'x'], ['t', 'y', 'p', 'e', 'N', 'a', 'm', 'e'], ['t', 'y', 'p', 'e', 'P', 'r', 'o', 'p', 's'], ['t', 'y', 'p', 'e', 'M', 'a', 'n', 'y'], ['a', 'r', 'g', 's'], ['a', 'r', 'g', 'N', 'o', 'd', 'e', 's'], ['s', 'a', 'm', 'e', 'A', 't'], ['f', 'r', 'a', 'm', 'e', 's'], ['f', 'r', 'a', 'm', 'e', 'K', 'i', 'n', 'd'], ['f', 'r', 'a', 'm', 'e', 'S', 't', 'a', 't', 'e'], ['f', 'r', 'a', 'm', 'e', 'D', 'e', 'e', 'p'], ['f', 'r', 'a', 'm', 'e', 'N', 'o', 'd', 'e'], ['f', 'r', 'a', 'm', 'e', 'O', 't', 'h', 'e', 'r'], ['f', 'r', 'a', 'm', 'e', 'T', 'h', 'i', 'r', 'd'], ['f', 'r', 'a', 'm', 'e', 'F', 'o', 'u', 'r', 't', 'h'], ['f', 'r', 'a', 'm', 'e', 'A', 't'], ['f', 'r', 'a', 'm', 'e', 'A', 'r', 'g', 's'], ['g', 'i', 'v', 'e', 'n'], ['g', 'o', 'a', 'l', 's'], ['p', 'r', 'o', 'v', 'e', 'd'], ['a', 'c', 'c', 'e', 's', 's', 'e', 's'], ['f', 'r', 'e', 'e', 'O', 'n', 'e', 's'], ['f', 'a', 'u', 'l', 't', 'F', 'u', 'n', 'c', 't', 'i', 'o', 'n'], ['i', 's', 'A', 'c', 'c', 'e', 'p', 't', 'e', 'd'], ['g', 'o', 'a', 'l', 'F', 'u', 'n', 'c', 't', 'i', 'o', 'n'], ['g', 'o', 'a', 'l', 'A', 't'], ['g', 'o', 'a', 'l', 'S', 'o', 'r', 't'], ['g', 'o', 'a', 'l', 'P', 'r', 'o', 'v', 'e', 'd'], ['g', 'o', 'a', 'l', 'F', 'a', 'c', 't', 's'], ['g', 'o', 'a', 'l', 'V', 'a', 'r', 'i', 'a', 'b', 'l', 'e', 's'], ['f', 'a', 'u', 'l', 't'], ['c', 'h', 'e', 'c', 'k', 'i', 'n', 'g'], ['v', 'a', 'r', 'i', 'a', 'b', 'l', 'e', 's'], ['f', 'a', 'c', 't', 's'], ['f', 'a', 'c', 't', 'R', 'o', 'w', 's'], ['n', 'a', 'm', 'e', 'd'], ['e', 'n', 'v', 'N', 'a', 'm', 'e'], ['e', 'n', 'v', 'S', 'o', 'r', 't'], ['e', 'n', 'v', 'R', 'o', 'w', 's'], ['t', 'o', 'p'], ['v', 'a', 'l', 'u', 'e', 'R', 'o', 'w', 's'], ['v', 'a', 'l', 'u', 'e', 'I', 's', 'R', 'o', 'w'], ['o', 'n', 'e'], ['l', 'e', 'f', 't'], ['r', 'i', 'g', 'h', 't'], ['g', 'o', 'a', 'l'], ['e', 'n', 'v', 'F', 'r', 'o', 'm'], ['i', 'N', 'a', 'm', 'e'], ['i', 'A', 't'], ['i', 'T', 'i', 'm', 'e', 's'], ['e', 'n', 'v', 'T', 'o'], ['c', 'a', 'l', 'l', 'P', 'l', 'a', 'c', 'e'], ['r', 'o', 'w', 's'], ['r', 'o', 'w', 's', 'A', 't'], ['f', 'r', 'e', 's', 'h'], ['f', 'r', 'e', 's', 'h', 'A', 't'], ['t', 'i', 'g', 'h', 't'], ['i', 's', 'F', 'a', 'l', 's', 'e'], ['s', 't', 'e', 'p', 's'], ['s', 't', 'e', 'p', 'N', 'o', 'd', 'e'], ['s', 't', 'e', 'p', 'S', 't', 'a', 't', 'e'], ['s', 't', 'e', 'p', 'H', 'o', 'w'], ['s', 't', 'e', 'p', 'T', 'y', 'p', 'e'], ['s', 't', 'e', 'p', 'T', 'o', 'p'], ['s', 't', 'e', 'p', 'V', 'a', 'r', 'i', 'a', 'b', 'l', 'e', 's'], ['s', 't', 'e', 'p', 'F', 'a', 'c', 't', 's'], ['s', 't', 'e', 'p', 'O', 't', 'h', 'e', 'r'], ['s', 't', 'e', 'p', 'N', 'a', 'm', 'e', 'd'], ['l', 'o', 'o', 'k', 'N', 'a', 'm', 'e', 'd'], ['t', 'o', 'l', 'd'], ['c', 'o', 'd', 'e', 'M', 'a', 'n', 'y'], ['c', 'o', 'd', 'e', 's'], ['n', 'u', 'm', 'b', 'e', 'r', 's'], ['c', 'o', 'd', 'e', 'F', 'r', 'e', 'e'], ['c', 'o', 'm', 'p', 'i', 'l', 'e', 'd'], ['l', 'o', 'c', 'a', 'l', 's'], ['l', 'o', 'c', 'a', 'l', 'N', 'a', 'm', 'e'], ['s', 'l', 'o', 't', 'I', 's', 'R', 'o', 'w'], ['s', 'l', 'o', 't', 's'], ['s', 'l', 'o', 't', 'R', 'o', 'w', 's'], ['v', 'a', 'l', 'u', 'e', 's'], ['c', 'e', 'l', 'l', 's'], ['t', 'a', 'k', 'e', 'n'], ['p', 'i', 'l', 'e'], ['p', 'i', 'l', 'e', 'd'], ['c', 'a', 'l', 'l', 's'], ['c', 'a', 'l', 'l', 'F', 'u', 'n', 'c', 't', 'i', 'o', 'n'], ['c', 'a', 'l', 'l', 'N', 'e', 'x', 't'], ['c', 'a', 'l', 'l', 'L', 'o', 'c', 'a', 'l', 's'], ['p', 'r', 'i', 'n', 't', 's'], ['p', 'r', 'i', 'n', 't', 'e', 'd', 'M', 'a', 'n', 'y'], ['e', 'n', 'd', 'e', 'd'], ['a', 'n', 's', 'w', 'e', 'r', 'e', 'd'], ['a', 'n', 's', 'w', 'e', 'r', 'R', 'o', 'w'], ['m', 'a', 'd', 'e'], ['c', 'h', 'e', 'c', 'k', 's'], ['r', 'e', 'a', 'c', 'h', 'e', 'd'], ['d', 'e', 'e', 'p', 'e', 's', 't'], ['p', 'a', 'r', 'a', 'm', 'C', 'e', 'l', 'l'], ['d', 'e', 's', 'k', 'F', 'a', 'c', 't', 's'], ['d', 'e', 's', 'k', 'R', 'o', 'w', 's']]
set_option maxRecDepth 20000 in
theorem tb_n12 : tb_N12.Nodup := by decide +kernel
set_option maxRecDepth 20000 in
theorem tb_m12 : mm_allL (fun j => (tb_N12[j]?).map String.ofList = some (tb_T12 j).2.1) (List.range 145) := ⟨rfl, rfl, rfl, rfl, rfl, rfl, rfl, rfl, rfl, rfl, rfl, rfl, rfl, rfl, rfl, rfl, rfl, rfl, rfl, rfl, rfl, rfl, rfl, rfl, rfl, rfl, rfl, rfl, rfl, rfl, rfl, rfl, rfl, rfl, rfl, rfl, rfl, rfl, rfl, rfl, rfl, rfl, rfl, rfl, rfl, rfl, rfl, rfl, rfl, rfl, rfl, rfl, rfl, rfl, rfl, rfl, rfl, rfl, rfl, rfl, rfl, rfl, rfl, rfl, rfl, rfl, rfl, rfl, rfl, rfl, rfl, rfl, rfl, rfl, rfl, rfl, rfl, rfl, rfl, rfl, rfl, rfl, rfl, rfl, rfl, rfl, rfl, rfl, rfl, rfl, rfl, rfl, rfl, rfl, rfl, rfl, rfl, rfl, rfl, rfl, rfl, rfl, rfl, rfl, rfl, rfl, rfl, rfl, rfl, rfl, rfl, rfl, rfl, rfl, rfl, rfl, rfl, rfl, rfl, rfl, rfl, rfl, rfl, rfl, rfl, rfl, rfl, rfl, rfl, rfl, rfl, rfl, rfl, rfl, rfl, rfl, rfl, rfl, rfl, rfl, rfl, rfl, rfl, rfl, rfl, trivial⟩
end
section
/-! THE CODE of the methods, by wip/gen.py. Methods by number: -/
-- 0 IndexedCompilerLaw.law([I)Z
def tb_d0_0 : List (Nat × Instr) := [(0, .new 8), (3, .dup), (4, .invokespecial 60), (7, .astore_n 1), (8, .new 61), (11, .dup), (12, .invokespecial 63), (15, .astore_n 2), (16, .iconst 1), (17, .newarray .long), (19, .astore_n 3), (20, .iconst 0)]
set_option maxRecDepth 20000 in
theorem tb_e0_0 : ∀ q ∈ tb_d0_0, decode code q.1 = .ok (q.2, mm_ln q.2) := by decide +kernel
def tb_d0_1 : List (Nat × Instr) := [(21, .istore 4), (23, .iload 4), (25, .aload_n 0), (26, .arraylength), (27, .bipush 6), (29, .isub), (30, .if_icmp .gt 1170), (33, .aload_n 0), (34, .iload 4), (36, .iaload), (37, .bipush 31), (39, .iand)]
set_option maxRecDepth 20000 in
theorem tb_e0_1 : ∀ q ∈ tb_d0_1, decode code q.1 = .ok (q.2, mm_ln q.2) := by decide +kernel
def tb_d0_2 : List (Nat × Instr) := [(136, .aload_n 1), (137, .aload_n 0), (138, .iload 4), (140, .iconst 1), (141, .iadd), (142, .iaload), (143, .aload_n 0), (144, .iload 4), (146, .iconst 2), (147, .iadd), (148, .iaload), (149, .aload_n 0)]
set_option maxRecDepth 20000 in
theorem tb_e0_2 : ∀ q ∈ tb_d0_2, decode code q.1 = .ok (q.2, mm_ln q.2) := by decide +kernel
def tb_d0_3 : List (Nat × Instr) := [(150, .iload 4), (152, .iconst 3), (153, .iadd), (154, .iaload), (155, .aload_n 0), (156, .iload 4), (158, .iconst 4), (159, .iadd), (160, .iaload), (161, .aload_n 0), (162, .iload 4), (164, .iconst 5)]
set_option maxRecDepth 20000 in
theorem tb_e0_3 : ∀ q ∈ tb_d0_3, decode code q.1 = .ok (q.2, mm_ln q.2) := by decide +kernel
def tb_d0_4 : List (Nat × Instr) := [(165, .iadd), (166, .iaload), (167, .aload_n 3), (168, .invokestatic 64), (171, .istore 5), (173, .aload_n 2), (174, .aload_n 0), (175, .iload 4), (177, .iconst 1), (178, .iadd), (179, .iaload), (180, .aload_n 0)]
set_option maxRecDepth 20000 in
theorem tb_e0_4 : ∀ q ∈ tb_d0_4, decode code q.1 = .ok (q.2, mm_ln q.2) := by decide +kernel
def tb_d0_5 : List (Nat × Instr) := [(181, .iload 4), (183, .iconst 2), (184, .iadd), (185, .iaload), (186, .aload_n 0), (187, .iload 4), (189, .iconst 3), (190, .iadd), (191, .iaload), (192, .aload_n 0), (193, .iload 4), (195, .iconst 4)]
set_option maxRecDepth 20000 in
theorem tb_e0_5 : ∀ q ∈ tb_d0_5, decode code q.1 = .ok (q.2, mm_ln q.2) := by decide +kernel
def tb_d0_6 : List (Nat × Instr) := [(196, .iadd), (197, .iaload), (198, .aload_n 0), (199, .iload 4), (201, .iconst 5), (202, .iadd), (203, .iaload), (204, .invokevirtual 69), (207, .istore 6), (209, .aload_n 2), (210, .invokevirtual 70), (213, .iload 5)]
set_option maxRecDepth 20000 in
theorem tb_e0_6 : ∀ q ∈ tb_d0_6, decode code q.1 = .ok (q.2, mm_ln q.2) := by decide +kernel
def tb_d0_7 : List (Nat × Instr) := [(215, .if_icmp .eq 5), (218, .iconst 0), (219, .ireturn), (220, .iload 5), (222, .ifCond .ne 15), (225, .aload_n 3), (226, .iconst 0), (227, .laload), (228, .iload 6), (230, .i2l), (231, .lcmp), (232, .ifCond .eq 5)]
set_option maxRecDepth 20000 in
theorem tb_e0_7 : ∀ q ∈ tb_d0_7, decode code q.1 = .ok (q.2, mm_ln q.2) := by decide +kernel
def tb_d0_8 : List (Nat × Instr) := [(235, .iconst 0), (236, .ireturn), (237, .goto 957), (240, .aload_n 1), (241, .invokevirtual 74), (244, .aload_n 2), (245, .invokevirtual 77), (248, .if_icmp .eq 946), (251, .iconst 0), (252, .ireturn), (253, .aload_n 1), (254, .invokevirtual 78)]
set_option maxRecDepth 20000 in
theorem tb_e0_8 : ∀ q ∈ tb_d0_8, decode code q.1 = .ok (q.2, mm_ln q.2) := by decide +kernel
def tb_d0_9 : List (Nat × Instr) := [(257, .aload_n 2), (258, .invokevirtual 81), (261, .if_icmp .eq 933), (264, .iconst 0), (265, .ireturn), (266, .aload_n 1), (267, .invokevirtual 82), (270, .aload_n 2), (271, .invokevirtual 85), (274, .if_icmp .eq 920), (277, .iconst 0), (278, .ireturn)]
set_option maxRecDepth 20000 in
theorem tb_e0_9 : ∀ q ∈ tb_d0_9, decode code q.1 = .ok (q.2, mm_ln q.2) := by decide +kernel
def tb_d0_10 : List (Nat × Instr) := [(279, .aload_n 1), (280, .invokevirtual 86), (283, .aload_n 2), (284, .invokevirtual 89), (287, .if_icmp .eq 907), (290, .iconst 0), (291, .ireturn), (292, .aload_n 1), (293, .invokevirtual 90), (296, .aload_n 2), (297, .invokevirtual 93), (300, .if_icmp .eq 894)]
set_option maxRecDepth 20000 in
theorem tb_e0_10 : ∀ q ∈ tb_d0_10, decode code q.1 = .ok (q.2, mm_ln q.2) := by decide +kernel
def tb_d0_11 : List (Nat × Instr) := [(303, .iconst 0), (304, .ireturn), (305, .aload_n 1), (306, .aload_n 0), (307, .iload 4), (309, .iconst 1), (310, .iadd), (311, .iaload), (312, .aload_n 3), (313, .invokestatic 94), (316, .istore 5), (318, .aload_n 2)]
set_option maxRecDepth 20000 in
theorem tb_e0_11 : ∀ q ∈ tb_d0_11, decode code q.1 = .ok (q.2, mm_ln q.2) := by decide +kernel
def tb_d0_12 : List (Nat × Instr) := [(319, .aload_n 0), (320, .iload 4), (322, .iconst 1), (323, .iadd), (324, .iaload), (325, .invokevirtual 97), (328, .istore 6), (330, .aload_n 2), (331, .invokevirtual 70), (334, .iload 5), (336, .if_icmp .eq 5), (339, .iconst 0)]
set_option maxRecDepth 20000 in
theorem tb_e0_12 : ∀ q ∈ tb_d0_12, decode code q.1 = .ok (q.2, mm_ln q.2) := by decide +kernel
def tb_d0_13 : List (Nat × Instr) := [(340, .ireturn), (341, .iload 5), (343, .ifCond .ne 15), (346, .aload_n 3), (347, .iconst 0), (348, .laload), (349, .iload 6), (351, .i2l), (352, .lcmp), (353, .ifCond .eq 5), (356, .iconst 0), (357, .ireturn)]
set_option maxRecDepth 20000 in
theorem tb_e0_13 : ∀ q ∈ tb_d0_13, decode code q.1 = .ok (q.2, mm_ln q.2) := by decide +kernel
def tb_d0_14 : List (Nat × Instr) := [(358, .goto 836), (361, .aload_n 1), (362, .aload_n 0), (363, .iload 4), (365, .iconst 1), (366, .iadd), (367, .iaload), (368, .aload_n 0), (369, .iload 4), (371, .iconst 2), (372, .iadd), (373, .iaload)]
set_option maxRecDepth 20000 in
theorem tb_e0_14 : ∀ q ∈ tb_d0_14, decode code q.1 = .ok (q.2, mm_ln q.2) := by decide +kernel
def tb_d0_15 : List (Nat × Instr) := [(374, .aload_n 3), (375, .invokestatic 98), (378, .istore 5), (380, .aload_n 2), (381, .aload_n 0), (382, .iload 4), (384, .iconst 1), (385, .iadd), (386, .iaload), (387, .aload_n 0), (388, .iload 4), (390, .iconst 2)]
set_option maxRecDepth 20000 in
theorem tb_e0_15 : ∀ q ∈ tb_d0_15, decode code q.1 = .ok (q.2, mm_ln q.2) := by decide +kernel
def tb_d0_16 : List (Nat × Instr) := [(391, .iadd), (392, .iaload), (393, .invokevirtual 101), (396, .istore 6), (398, .aload_n 2), (399, .invokevirtual 70), (402, .iload 5), (404, .if_icmp .eq 5), (407, .iconst 0), (408, .ireturn), (409, .iload 5), (411, .ifCond .ne 15)]
set_option maxRecDepth 20000 in
theorem tb_e0_16 : ∀ q ∈ tb_d0_16, decode code q.1 = .ok (q.2, mm_ln q.2) := by decide +kernel
def tb_d0_17 : List (Nat × Instr) := [(414, .aload_n 3), (415, .iconst 0), (416, .laload), (417, .iload 6), (419, .i2l), (420, .lcmp), (421, .ifCond .eq 5), (424, .iconst 0), (425, .ireturn), (426, .goto 768), (429, .aload_n 1), (430, .aload_n 0)]
set_option maxRecDepth 20000 in
theorem tb_e0_17 : ∀ q ∈ tb_d0_17, decode code q.1 = .ok (q.2, mm_ln q.2) := by decide +kernel
def tb_d0_18 : List (Nat × Instr) := [(431, .iload 4), (433, .iconst 1), (434, .iadd), (435, .iaload), (436, .aload_n 0), (437, .iload 4), (439, .iconst 2), (440, .iadd), (441, .iaload), (442, .aload_n 0), (443, .iload 4), (445, .iconst 3)]
set_option maxRecDepth 20000 in
theorem tb_e0_18 : ∀ q ∈ tb_d0_18, decode code q.1 = .ok (q.2, mm_ln q.2) := by decide +kernel
def tb_d0_19 : List (Nat × Instr) := [(446, .iadd), (447, .iaload), (448, .aload_n 3), (449, .invokestatic 102), (452, .istore 5), (454, .aload_n 2), (455, .aload_n 0), (456, .iload 4), (458, .iconst 1), (459, .iadd), (460, .iaload), (461, .aload_n 0)]
set_option maxRecDepth 20000 in
theorem tb_e0_19 : ∀ q ∈ tb_d0_19, decode code q.1 = .ok (q.2, mm_ln q.2) := by decide +kernel
def tb_d0_20 : List (Nat × Instr) := [(462, .iload 4), (464, .iconst 2), (465, .iadd), (466, .iaload), (467, .aload_n 0), (468, .iload 4), (470, .iconst 3), (471, .iadd), (472, .iaload), (473, .invokevirtual 105), (476, .istore 6), (478, .aload_n 2)]
set_option maxRecDepth 20000 in
theorem tb_e0_20 : ∀ q ∈ tb_d0_20, decode code q.1 = .ok (q.2, mm_ln q.2) := by decide +kernel
def tb_d0_21 : List (Nat × Instr) := [(479, .invokevirtual 70), (482, .iload 5), (484, .if_icmp .eq 5), (487, .iconst 0), (488, .ireturn), (489, .iload 5), (491, .ifCond .ne 15), (494, .aload_n 3), (495, .iconst 0), (496, .laload), (497, .iload 6), (499, .i2l)]
set_option maxRecDepth 20000 in
theorem tb_e0_21 : ∀ q ∈ tb_d0_21, decode code q.1 = .ok (q.2, mm_ln q.2) := by decide +kernel
def tb_d0_22 : List (Nat × Instr) := [(500, .lcmp), (501, .ifCond .eq 5), (504, .iconst 0), (505, .ireturn), (506, .goto 688), (509, .aload_n 1), (510, .aload_n 0), (511, .iload 4), (513, .iconst 1), (514, .iadd), (515, .iaload), (516, .aload_n 0)]
set_option maxRecDepth 20000 in
theorem tb_e0_22 : ∀ q ∈ tb_d0_22, decode code q.1 = .ok (q.2, mm_ln q.2) := by decide +kernel
def tb_d0_23 : List (Nat × Instr) := [(517, .iload 4), (519, .iconst 2), (520, .iadd), (521, .iaload), (522, .invokestatic 106), (525, .istore 5), (527, .aload_n 2), (528, .aload_n 0), (529, .iload 4), (531, .iconst 1), (532, .iadd), (533, .iaload)]
set_option maxRecDepth 20000 in
theorem tb_e0_23 : ∀ q ∈ tb_d0_23, decode code q.1 = .ok (q.2, mm_ln q.2) := by decide +kernel
def tb_d0_24 : List (Nat × Instr) := [(534, .aload_n 0), (535, .iload 4), (537, .iconst 2), (538, .iadd), (539, .iaload), (540, .invokevirtual 109), (543, .aload_n 2), (544, .invokevirtual 70), (547, .iload 5), (549, .if_icmp .eq 5), (552, .iconst 0), (553, .ireturn)]
set_option maxRecDepth 20000 in
theorem tb_e0_24 : ∀ q ∈ tb_d0_24, decode code q.1 = .ok (q.2, mm_ln q.2) := by decide +kernel
def tb_d0_25 : List (Nat × Instr) := [(554, .goto 640), (557, .aload_n 1), (558, .aload_n 0), (559, .iload 4), (561, .iconst 1), (562, .iadd), (563, .iaload), (564, .aload_n 0), (565, .iload 4), (567, .iconst 2), (568, .iadd), (569, .iaload)]
set_option maxRecDepth 20000 in
theorem tb_e0_25 : ∀ q ∈ tb_d0_25, decode code q.1 = .ok (q.2, mm_ln q.2) := by decide +kernel
def tb_d0_26 : List (Nat × Instr) := [(570, .invokestatic 110), (573, .istore 5), (575, .aload_n 2), (576, .aload_n 0), (577, .iload 4), (579, .iconst 1), (580, .iadd), (581, .iaload), (582, .aload_n 0), (583, .iload 4), (585, .iconst 2), (586, .iadd)]
set_option maxRecDepth 20000 in
theorem tb_e0_26 : ∀ q ∈ tb_d0_26, decode code q.1 = .ok (q.2, mm_ln q.2) := by decide +kernel
def tb_d0_27 : List (Nat × Instr) := [(587, .iaload), (588, .invokevirtual 112), (591, .aload_n 2), (592, .invokevirtual 70), (595, .iload 5), (597, .if_icmp .eq 5), (600, .iconst 0), (601, .ireturn), (602, .goto 592), (605, .aload_n 1), (606, .aload_n 0), (607, .iload 4)]
set_option maxRecDepth 20000 in
theorem tb_e0_27 : ∀ q ∈ tb_d0_27, decode code q.1 = .ok (q.2, mm_ln q.2) := by decide +kernel
def tb_d0_28 : List (Nat × Instr) := [(609, .iconst 1), (610, .iadd), (611, .iaload), (612, .aload_n 0), (613, .iload 4), (615, .iconst 2), (616, .iadd), (617, .iaload), (618, .aload_n 0), (619, .iload 4), (621, .iconst 3), (622, .iadd)]
set_option maxRecDepth 20000 in
theorem tb_e0_28 : ∀ q ∈ tb_d0_28, decode code q.1 = .ok (q.2, mm_ln q.2) := by decide +kernel
def tb_d0_29 : List (Nat × Instr) := [(623, .iaload), (624, .invokestatic 113), (627, .istore 5), (629, .aload_n 2), (630, .aload_n 0), (631, .iload 4), (633, .iconst 1), (634, .iadd), (635, .iaload), (636, .aload_n 0), (637, .iload 4), (639, .iconst 2)]
set_option maxRecDepth 20000 in
theorem tb_e0_29 : ∀ q ∈ tb_d0_29, decode code q.1 = .ok (q.2, mm_ln q.2) := by decide +kernel
def tb_d0_30 : List (Nat × Instr) := [(640, .iadd), (641, .iaload), (642, .aload_n 0), (643, .iload 4), (645, .iconst 3), (646, .iadd), (647, .iaload), (648, .invokevirtual 116), (651, .aload_n 2), (652, .invokevirtual 70), (655, .iload 5), (657, .if_icmp .eq 5)]
set_option maxRecDepth 20000 in
theorem tb_e0_30 : ∀ q ∈ tb_d0_30, decode code q.1 = .ok (q.2, mm_ln q.2) := by decide +kernel
def tb_d0_31 : List (Nat × Instr) := [(660, .iconst 0), (661, .ireturn), (662, .goto 532), (665, .aload_n 1), (666, .aload_n 0), (667, .iload 4), (669, .iconst 1), (670, .iadd), (671, .iaload), (672, .aload_n 0), (673, .iload 4), (675, .iconst 2)]
set_option maxRecDepth 20000 in
theorem tb_e0_31 : ∀ q ∈ tb_d0_31, decode code q.1 = .ok (q.2, mm_ln q.2) := by decide +kernel
def tb_d0_32 : List (Nat × Instr) := [(676, .iadd), (677, .iaload), (678, .aload_n 3), (679, .invokestatic 117), (682, .istore 5), (684, .aload_n 2), (685, .aload_n 0), (686, .iload 4), (688, .iconst 1), (689, .iadd), (690, .iaload), (691, .aload_n 0)]
set_option maxRecDepth 20000 in
theorem tb_e0_32 : ∀ q ∈ tb_d0_32, decode code q.1 = .ok (q.2, mm_ln q.2) := by decide +kernel
def tb_d0_33 : List (Nat × Instr) := [(692, .iload 4), (694, .iconst 2), (695, .iadd), (696, .iaload), (697, .invokevirtual 119), (700, .istore 6), (702, .aload_n 2), (703, .invokevirtual 70), (706, .iload 5), (708, .if_icmp .eq 5), (711, .iconst 0), (712, .ireturn)]
set_option maxRecDepth 20000 in
theorem tb_e0_33 : ∀ q ∈ tb_d0_33, decode code q.1 = .ok (q.2, mm_ln q.2) := by decide +kernel
def tb_d0_34 : List (Nat × Instr) := [(713, .iload 5), (715, .ifCond .ne 15), (718, .aload_n 3), (719, .iconst 0), (720, .laload), (721, .iload 6), (723, .i2l), (724, .lcmp), (725, .ifCond .eq 5), (728, .iconst 0), (729, .ireturn), (730, .goto 464)]
set_option maxRecDepth 20000 in
theorem tb_e0_34 : ∀ q ∈ tb_d0_34, decode code q.1 = .ok (q.2, mm_ln q.2) := by decide +kernel
def tb_d0_35 : List (Nat × Instr) := [(733, .aload_n 1), (734, .aload_n 0), (735, .iload 4), (737, .iconst 1), (738, .iadd), (739, .iaload), (740, .aload_n 0), (741, .iload 4), (743, .iconst 2), (744, .iadd), (745, .iaload), (746, .aload_n 3)]
set_option maxRecDepth 20000 in
theorem tb_e0_35 : ∀ q ∈ tb_d0_35, decode code q.1 = .ok (q.2, mm_ln q.2) := by decide +kernel
def tb_d0_36 : List (Nat × Instr) := [(747, .invokestatic 120), (750, .istore 5), (752, .aload_n 2), (753, .aload_n 0), (754, .iload 4), (756, .iconst 1), (757, .iadd), (758, .iaload), (759, .aload_n 0), (760, .iload 4), (762, .iconst 2), (763, .iadd)]
set_option maxRecDepth 20000 in
theorem tb_e0_36 : ∀ q ∈ tb_d0_36, decode code q.1 = .ok (q.2, mm_ln q.2) := by decide +kernel
def tb_d0_37 : List (Nat × Instr) := [(764, .iaload), (765, .invokevirtual 122), (768, .istore 6), (770, .aload_n 2), (771, .invokevirtual 70), (774, .iload 5), (776, .if_icmp .eq 5), (779, .iconst 0), (780, .ireturn), (781, .iload 5), (783, .ifCond .ne 15), (786, .aload_n 3)]
set_option maxRecDepth 20000 in
theorem tb_e0_37 : ∀ q ∈ tb_d0_37, decode code q.1 = .ok (q.2, mm_ln q.2) := by decide +kernel
def tb_d0_38 : List (Nat × Instr) := [(787, .iconst 0), (788, .laload), (789, .iload 6), (791, .i2l), (792, .lcmp), (793, .ifCond .eq 5), (796, .iconst 0), (797, .ireturn), (798, .goto 396), (801, .aload_n 1), (802, .aload_n 0), (803, .iload 4)]
set_option maxRecDepth 20000 in
theorem tb_e0_38 : ∀ q ∈ tb_d0_38, decode code q.1 = .ok (q.2, mm_ln q.2) := by decide +kernel
def tb_d0_39 : List (Nat × Instr) := [(805, .iconst 1), (806, .iadd), (807, .iaload), (808, .aload_n 0), (809, .iload 4), (811, .iconst 2), (812, .iadd), (813, .iaload), (814, .aload_n 0), (815, .iload 4), (817, .iconst 3), (818, .iadd)]
set_option maxRecDepth 20000 in
theorem tb_e0_39 : ∀ q ∈ tb_d0_39, decode code q.1 = .ok (q.2, mm_ln q.2) := by decide +kernel
def tb_d0_40 : List (Nat × Instr) := [(819, .iaload), (820, .aload_n 3), (821, .invokestatic 123), (824, .istore 5), (826, .aload_n 2), (827, .aload_n 0), (828, .iload 4), (830, .iconst 1), (831, .iadd), (832, .iaload), (833, .aload_n 0), (834, .iload 4)]
set_option maxRecDepth 20000 in
theorem tb_e0_40 : ∀ q ∈ tb_d0_40, decode code q.1 = .ok (q.2, mm_ln q.2) := by decide +kernel
def tb_d0_41 : List (Nat × Instr) := [(836, .iconst 2), (837, .iadd), (838, .iaload), (839, .aload_n 0), (840, .iload 4), (842, .iconst 3), (843, .iadd), (844, .iaload), (845, .invokevirtual 125), (848, .istore 6), (850, .aload_n 2), (851, .invokevirtual 70)]
set_option maxRecDepth 20000 in
theorem tb_e0_41 : ∀ q ∈ tb_d0_41, decode code q.1 = .ok (q.2, mm_ln q.2) := by decide +kernel
def tb_d0_42 : List (Nat × Instr) := [(854, .iload 5), (856, .if_icmp .eq 5), (859, .iconst 0), (860, .ireturn), (861, .iload 5), (863, .ifCond .ne 15), (866, .aload_n 3), (867, .iconst 0), (868, .laload), (869, .iload 6), (871, .i2l), (872, .lcmp)]
set_option maxRecDepth 20000 in
theorem tb_e0_42 : ∀ q ∈ tb_d0_42, decode code q.1 = .ok (q.2, mm_ln q.2) := by decide +kernel
def tb_d0_43 : List (Nat × Instr) := [(873, .ifCond .eq 5), (876, .iconst 0), (877, .ireturn), (878, .goto 316), (881, .aload_n 1), (882, .aload_n 0), (883, .iload 4), (885, .iconst 1), (886, .iadd), (887, .iaload), (888, .aload_n 3), (889, .invokestatic 126)]
set_option maxRecDepth 20000 in
theorem tb_e0_43 : ∀ q ∈ tb_d0_43, decode code q.1 = .ok (q.2, mm_ln q.2) := by decide +kernel
def tb_d0_44 : List (Nat × Instr) := [(892, .istore 5), (894, .aload_n 2), (895, .aload_n 0), (896, .iload 4), (898, .iconst 1), (899, .iadd), (900, .iaload), (901, .invokevirtual 128), (904, .istore 6), (906, .aload_n 2), (907, .invokevirtual 70), (910, .iload 5)]
set_option maxRecDepth 20000 in
theorem tb_e0_44 : ∀ q ∈ tb_d0_44, decode code q.1 = .ok (q.2, mm_ln q.2) := by decide +kernel
def tb_d0_45 : List (Nat × Instr) := [(912, .if_icmp .eq 5), (915, .iconst 0), (916, .ireturn), (917, .iload 5), (919, .ifCond .ne 15), (922, .aload_n 3), (923, .iconst 0), (924, .laload), (925, .iload 6), (927, .i2l), (928, .lcmp), (929, .ifCond .eq 5)]
set_option maxRecDepth 20000 in
theorem tb_e0_45 : ∀ q ∈ tb_d0_45, decode code q.1 = .ok (q.2, mm_ln q.2) := by decide +kernel
def tb_d0_46 : List (Nat × Instr) := [(932, .iconst 0), (933, .ireturn), (934, .goto 260), (937, .aload_n 1), (938, .aload_n 0), (939, .iload 4), (941, .iconst 1), (942, .iadd), (943, .iaload), (944, .aload_n 0), (945, .iload 4), (947, .iconst 2)]
set_option maxRecDepth 20000 in
theorem tb_e0_46 : ∀ q ∈ tb_d0_46, decode code q.1 = .ok (q.2, mm_ln q.2) := by decide +kernel
def tb_d0_47 : List (Nat × Instr) := [(948, .iadd), (949, .iaload), (950, .ifCond .eq 7), (953, .iconst 1), (954, .goto 4), (957, .iconst 0), (958, .invokevirtual 129), (961, .aload_n 2), (962, .aload_n 0), (963, .iload 4), (965, .iconst 1), (966, .iadd)]
set_option maxRecDepth 20000 in
theorem tb_e0_47 : ∀ q ∈ tb_d0_47, decode code q.1 = .ok (q.2, mm_ln q.2) := by decide +kernel
def tb_d0_48 : List (Nat × Instr) := [(967, .iaload), (968, .aload_n 0), (969, .iload 4), (971, .iconst 2), (972, .iadd), (973, .iaload), (974, .ifCond .eq 7), (977, .iconst 1), (978, .goto 4), (981, .iconst 0), (982, .invokevirtual 133), (985, .if_icmp .eq 209)]
set_option maxRecDepth 20000 in
theorem tb_e0_48 : ∀ q ∈ tb_d0_48, decode code q.1 = .ok (q.2, mm_ln q.2) := by decide +kernel
def tb_d0_49 : List (Nat × Instr) := [(988, .iconst 0), (989, .ireturn), (990, .aload_n 1), (991, .aload_n 0), (992, .iload 4), (994, .iconst 1), (995, .iadd), (996, .iaload), (997, .aload_n 0), (998, .iload 4), (1000, .iconst 2), (1001, .iadd)]
set_option maxRecDepth 20000 in
theorem tb_e0_49 : ∀ q ∈ tb_d0_49, decode code q.1 = .ok (q.2, mm_ln q.2) := by decide +kernel
def tb_d0_50 : List (Nat × Instr) := [(1002, .iaload), (1003, .aload_n 0), (1004, .iload 4), (1006, .iconst 3), (1007, .iadd), (1008, .iaload), (1009, .aload_n 0), (1010, .iload 4), (1012, .iconst 4), (1013, .iadd), (1014, .iaload), (1015, .aload_n 3)]
set_option maxRecDepth 20000 in
theorem tb_e0_50 : ∀ q ∈ tb_d0_50, decode code q.1 = .ok (q.2, mm_ln q.2) := by decide +kernel
def tb_d0_51 : List (Nat × Instr) := [(1016, .invokestatic 134), (1019, .istore 5), (1021, .aload_n 2), (1022, .aload_n 0), (1023, .iload 4), (1025, .iconst 1), (1026, .iadd), (1027, .iaload), (1028, .aload_n 0), (1029, .iload 4), (1031, .iconst 2), (1032, .iadd)]
set_option maxRecDepth 20000 in
theorem tb_e0_51 : ∀ q ∈ tb_d0_51, decode code q.1 = .ok (q.2, mm_ln q.2) := by decide +kernel
def tb_d0_52 : List (Nat × Instr) := [(1033, .iaload), (1034, .aload_n 0), (1035, .iload 4), (1037, .iconst 3), (1038, .iadd), (1039, .iaload), (1040, .aload_n 0), (1041, .iload 4), (1043, .iconst 4), (1044, .iadd), (1045, .iaload), (1046, .invokevirtual 137)]
set_option maxRecDepth 20000 in
theorem tb_e0_52 : ∀ q ∈ tb_d0_52, decode code q.1 = .ok (q.2, mm_ln q.2) := by decide +kernel
def tb_d0_53 : List (Nat × Instr) := [(1049, .istore 6), (1051, .aload_n 2), (1052, .invokevirtual 70), (1055, .iload 5), (1057, .if_icmp .eq 5), (1060, .iconst 0), (1061, .ireturn), (1062, .iload 5), (1064, .ifCond .ne 15), (1067, .aload_n 3), (1068, .iconst 0), (1069, .laload)]
set_option maxRecDepth 20000 in
theorem tb_e0_53 : ∀ q ∈ tb_d0_53, decode code q.1 = .ok (q.2, mm_ln q.2) := by decide +kernel
def tb_d0_54 : List (Nat × Instr) := [(1070, .iload 6), (1072, .i2l), (1073, .lcmp), (1074, .ifCond .eq 5), (1077, .iconst 0), (1078, .ireturn), (1079, .goto 115), (1082, .aload_n 1), (1083, .aload_n 0), (1084, .iload 4), (1086, .iconst 1), (1087, .iadd)]
set_option maxRecDepth 20000 in
theorem tb_e0_54 : ∀ q ∈ tb_d0_54, decode code q.1 = .ok (q.2, mm_ln q.2) := by decide +kernel
def tb_d0_55 : List (Nat × Instr) := [(1088, .iaload), (1089, .aload_n 0), (1090, .iload 4), (1092, .iconst 2), (1093, .iadd), (1094, .iaload), (1095, .aload_n 0), (1096, .iload 4), (1098, .iconst 3), (1099, .iadd), (1100, .iaload), (1101, .aload_n 0)]
set_option maxRecDepth 20000 in
theorem tb_e0_55 : ∀ q ∈ tb_d0_55, decode code q.1 = .ok (q.2, mm_ln q.2) := by decide +kernel
def tb_d0_56 : List (Nat × Instr) := [(1102, .iload 4), (1104, .iconst 4), (1105, .iadd), (1106, .iaload), (1107, .aload_n 3), (1108, .invokestatic 138), (1111, .istore 5), (1113, .aload_n 2), (1114, .aload_n 0), (1115, .iload 4), (1117, .iconst 1), (1118, .iadd)]
set_option maxRecDepth 20000 in
theorem tb_e0_56 : ∀ q ∈ tb_d0_56, decode code q.1 = .ok (q.2, mm_ln q.2) := by decide +kernel
def tb_d0_57 : List (Nat × Instr) := [(1119, .iaload), (1120, .aload_n 0), (1121, .iload 4), (1123, .iconst 2), (1124, .iadd), (1125, .iaload), (1126, .aload_n 0), (1127, .iload 4), (1129, .iconst 3), (1130, .iadd), (1131, .iaload), (1132, .aload_n 0)]
set_option maxRecDepth 20000 in
theorem tb_e0_57 : ∀ q ∈ tb_d0_57, decode code q.1 = .ok (q.2, mm_ln q.2) := by decide +kernel
def tb_d0_58 : List (Nat × Instr) := [(1133, .iload 4), (1135, .iconst 4), (1136, .iadd), (1137, .iaload), (1138, .invokevirtual 140), (1141, .istore 6), (1143, .aload_n 2), (1144, .invokevirtual 70), (1147, .iload 5), (1149, .if_icmp .eq 5), (1152, .iconst 0), (1153, .ireturn)]
set_option maxRecDepth 20000 in
theorem tb_e0_58 : ∀ q ∈ tb_d0_58, decode code q.1 = .ok (q.2, mm_ln q.2) := by decide +kernel
def tb_d0_59 : List (Nat × Instr) := [(1154, .iload 5), (1156, .ifCond .ne 22), (1159, .aload_n 3), (1160, .iconst 0), (1161, .laload), (1162, .iload 6), (1164, .ifCond .eq 7), (1167, .lconst 1), (1168, .goto 4), (1171, .lconst 0), (1172, .lcmp), (1173, .ifCond .eq 5)]
set_option maxRecDepth 20000 in
theorem tb_e0_59 : ∀ q ∈ tb_d0_59, decode code q.1 = .ok (q.2, mm_ln q.2) := by decide +kernel
def tb_d0_60 : List (Nat × Instr) := [(1176, .iconst 0), (1177, .ireturn), (1178, .goto 16), (1181, .aload_n 1), (1182, .invokevirtual 141), (1185, .aload_n 2), (1186, .invokevirtual 144), (1189, .if_icmp .eq 5), (1192, .iconst 0), (1193, .ireturn), (1194, .iinc 4 6), (1197, .goto (-1174))]
set_option maxRecDepth 20000 in
theorem tb_e0_60 : ∀ q ∈ tb_d0_60, decode code q.1 = .ok (q.2, mm_ln q.2) := by decide +kernel
def tb_d0_61 : List (Nat × Instr) := [(1200, .iconst 1), (1201, .ireturn)]
set_option maxRecDepth 20000 in
theorem tb_e0_61 : ∀ q ∈ tb_d0_61, decode code q.1 = .ok (q.2, mm_ln q.2) := by decide +kernel
def tb_d0 : List (Nat × Instr) := tb_d0_0 ++ (tb_d0_1 ++ (tb_d0_2 ++ (tb_d0_3 ++ (tb_d0_4 ++ (tb_d0_5 ++ (tb_d0_6 ++ (tb_d0_7 ++ (tb_d0_8 ++ (tb_d0_9 ++ (tb_d0_10 ++ (tb_d0_11 ++ (tb_d0_12 ++ (tb_d0_13 ++ (tb_d0_14 ++ (tb_d0_15 ++ (tb_d0_16 ++ (tb_d0_17 ++ (tb_d0_18 ++ (tb_d0_19 ++ (tb_d0_20 ++ (tb_d0_21 ++ (tb_d0_22 ++ (tb_d0_23 ++ (tb_d0_24 ++ (tb_d0_25 ++ (tb_d0_26 ++ (tb_d0_27 ++ (tb_d0_28 ++ (tb_d0_29 ++ (tb_d0_30 ++ (tb_d0_31 ++ (tb_d0_32 ++ (tb_d0_33 ++ (tb_d0_34 ++ (tb_d0_35 ++ (tb_d0_36 ++ (tb_d0_37 ++ (tb_d0_38 ++ (tb_d0_39 ++ (tb_d0_40 ++ (tb_d0_41 ++ (tb_d0_42 ++ (tb_d0_43 ++ (tb_d0_44 ++ (tb_d0_45 ++ (tb_d0_46 ++ (tb_d0_47 ++ (tb_d0_48 ++ (tb_d0_49 ++ (tb_d0_50 ++ (tb_d0_51 ++ (tb_d0_52 ++ (tb_d0_53 ++ (tb_d0_54 ++ (tb_d0_55 ++ (tb_d0_56 ++ (tb_d0_57 ++ (tb_d0_58 ++ (tb_d0_59 ++ (tb_d0_60 ++ (tb_d0_61)))))))))))))))))))))))))))))))))))))))))))))))))))))))))))))
theorem tb_e0 : ∀ q ∈ tb_d0, decode code q.1 = .ok (q.2, mm_ln q.2) := List.forall_mem_append.mpr ⟨tb_e0_0, List.forall_mem_append.mpr ⟨tb_e0_1, List.forall_mem_append.mpr ⟨tb_e0_2, List.forall_mem_append.mpr ⟨tb_e0_3, List.forall_mem_append.mpr ⟨tb_e0_4, List.forall_mem_append.mpr ⟨tb_e0_5, List.forall_mem_append.mpr ⟨tb_e0_6, List.forall_mem_append.mpr ⟨tb_e0_7, List.forall_mem_append.mpr ⟨tb_e0_8, List.forall_mem_append.mpr ⟨tb_e0_9, List.forall_mem_append.mpr ⟨tb_e0_10, List.forall_mem_append.mpr ⟨tb_e0_11, List.forall_mem_append.mpr ⟨tb_e0_12, List.forall_mem_append.mpr ⟨tb_e0_13, List.forall_mem_append.mpr ⟨tb_e0_14, List.forall_mem_append.mpr ⟨tb_e0_15, List.forall_mem_append.mpr ⟨tb_e0_16, List.forall_mem_append.mpr ⟨tb_e0_17, List.forall_mem_append.mpr ⟨tb_e0_18, List.forall_mem_append.mpr ⟨tb_e0_19, List.forall_mem_append.mpr ⟨tb_e0_20, List.forall_mem_append.mpr ⟨tb_e0_21, List.forall_mem_append.mpr ⟨tb_e0_22, List.forall_mem_append.mpr ⟨tb_e0_23, List.forall_mem_append.mpr ⟨tb_e0_24, List.forall_mem_append.mpr ⟨tb_e0_25, List.forall_mem_append.mpr ⟨tb_e0_26, List.forall_mem_append.mpr ⟨tb_e0_27, List.forall_mem_append.mpr ⟨tb_e0_28, List.forall_mem_append.mpr ⟨tb_e0_29, List.forall_mem_append.mpr ⟨tb_e0_30, List.forall_mem_append.mpr ⟨tb_e0_31, List.forall_mem_append.mpr ⟨tb_e0_32, List.forall_mem_append.mpr ⟨tb_e0_33, List.forall_mem_append.mpr ⟨tb_e0_34, List.forall_mem_append.mpr ⟨tb_e0_35, List.forall_mem_append.mpr ⟨tb_e0_36, List.forall_mem_append.mpr ⟨tb_e0_37, List.forall_mem_append.mpr ⟨tb_e0_38, List.forall_mem_append.mpr ⟨tb_e0_39, List.forall_mem_append.mpr ⟨tb_e0_40, List.forall_mem_append.mpr ⟨tb_e0_41, List.forall_mem_append.mpr ⟨tb_e0_42, List.forall_mem_append.mpr ⟨tb_e0_43, List.forall_mem_append.mpr ⟨tb_e0_44, List.forall_mem_append.mpr ⟨tb_e0_45, List.forall_mem_append.mpr ⟨tb_e0_46, List.forall_mem_append.mpr ⟨tb_e0_47, List.forall_mem_append.mpr ⟨tb_e0_48, List.forall_mem_append.mpr ⟨tb_e0_49, List.forall_mem_append.mpr ⟨tb_e0_50, List.forall_mem_append.mpr ⟨tb_e0_51, List.forall_mem_append.mpr ⟨tb_e0_52, List.forall_mem_append.mpr ⟨tb_e0_53, List.forall_mem_append.mpr ⟨tb_e0_54, List.forall_mem_append.mpr ⟨tb_e0_55, List.forall_mem_append.mpr ⟨tb_e0_56, List.forall_mem_append.mpr ⟨tb_e0_57, List.forall_mem_append.mpr ⟨tb_e0_58, List.forall_mem_append.mpr ⟨tb_e0_59, List.forall_mem_append.mpr ⟨tb_e0_60, tb_e0_61⟩⟩⟩⟩⟩⟩⟩⟩⟩⟩⟩⟩⟩⟩⟩⟩⟩⟩⟩⟩⟩⟩⟩⟩⟩⟩⟩⟩⟩⟩⟩⟩⟩⟩⟩⟩⟩⟩⟩⟩⟩⟩⟩⟩⟩⟩⟩⟩⟩⟩⟩⟩⟩⟩⟩⟩⟩⟩⟩⟩⟩
-- 1 IndexedCompilerLaw.type(LIndexedCompiler;IIIII[J)I
def tb_d1 : List (Nat × Instr) := [(0, .aload 6), (2, .iconst 0), (3, .aload_n 0), (4, .iload_n 1), (5, .iload_n 2), (6, .iload_n 3), (7, .iload 4), (9, .iload 5), (11, .invokevirtual 7), (14, .i2l), (15, .lastore), (16, .goto 7), (19, .astore 7), (21, .iconst 1), (22, .ireturn), (23, .iconst 0), (24, .ireturn)]
set_option maxRecDepth 20000 in
theorem tb_e1 : ∀ q ∈ tb_d1, decode method_3_code q.1 = .ok (q.2, mm_ln q.2) := by decide +kernel
-- 2 IndexedCompilerLaw.count(LIndexedCompiler;I[J)I
def tb_d2 : List (Nat × Instr) := [(0, .aload_n 2), (1, .iconst 0), (2, .aload_n 0), (3, .iload_n 1), (4, .invokevirtual 15), (7, .i2l), (8, .lastore), (9, .goto 6), (12, .astore_n 3), (13, .iconst 1), (14, .ireturn), (15, .iconst 0), (16, .ireturn)]
set_option maxRecDepth 20000 in
theorem tb_e2 : ∀ q ∈ tb_d2, decode method_4_code q.1 = .ok (q.2, mm_ln q.2) := by decide +kernel
-- 3 IndexedCompilerLaw.goal(LIndexedCompiler;II[J)I
def tb_d3 : List (Nat × Instr) := [(0, .aload_n 3), (1, .iconst 0), (2, .aload_n 0), (3, .iload_n 1), (4, .iload_n 2), (5, .invokevirtual 21), (8, .i2l), (9, .lastore), (10, .goto 11), (13, .astore 4), (15, .iconst 1), (16, .ireturn), (17, .astore 4), (19, .iconst 2), (20, .ireturn), (21, .iconst 0), (22, .ireturn)]
set_option maxRecDepth 20000 in
theorem tb_e3 : ∀ q ∈ tb_d3, decode method_5_code q.1 = .ok (q.2, mm_ln q.2) := by decide +kernel
-- 4 IndexedCompilerLaw.code(LIndexedCompiler;III[J)I
def tb_d4 : List (Nat × Instr) := [(0, .aload 4), (2, .iconst 0), (3, .aload_n 0), (4, .iload_n 1), (5, .iload_n 2), (6, .iload_n 3), (7, .invokevirtual 25), (10, .i2l), (11, .lastore), (12, .goto 11), (15, .astore 5), (17, .iconst 1), (18, .ireturn), (19, .astore 5), (21, .iconst 2), (22, .ireturn), (23, .iconst 0), (24, .ireturn)]
set_option maxRecDepth 20000 in
theorem tb_e4 : ∀ q ∈ tb_d4, decode method_6_code q.1 = .ok (q.2, mm_ln q.2) := by decide +kernel
-- 5 IndexedCompilerLaw.set(LIndexedCompiler;II)I
def tb_d5 : List (Nat × Instr) := [(0, .aload_n 0), (1, .iload_n 1), (2, .iload_n 2), (3, .invokevirtual 29), (6, .goto 6), (9, .astore_n 3), (10, .iconst 1), (11, .ireturn), (12, .iconst 0), (13, .ireturn)]
set_option maxRecDepth 20000 in
theorem tb_e5 : ∀ q ∈ tb_d5, decode method_7_code q.1 = .ok (q.2, mm_ln q.2) := by decide +kernel
-- 6 IndexedCompilerLaw.make(LIndexedCompiler;II)I
def tb_d6 : List (Nat × Instr) := [(0, .aload_n 0), (1, .iload_n 1), (2, .iload_n 2), (3, .invokevirtual 33), (6, .goto 6), (9, .astore_n 3), (10, .iconst 1), (11, .ireturn), (12, .iconst 0), (13, .ireturn)]
set_option maxRecDepth 20000 in
theorem tb_e6 : ∀ q ∈ tb_d6, decode method_8_code q.1 = .ok (q.2, mm_ln q.2) := by decide +kernel
-- 7 IndexedCompilerLaw.put(LIndexedCompiler;III)I
def tb_d7 : List (Nat × Instr) := [(0, .aload_n 0), (1, .iload_n 1), (2, .iload_n 2), (3, .iload_n 3), (4, .invokevirtual 36), (7, .goto 11), (10, .astore 4), (12, .iconst 1), (13, .ireturn), (14, .astore 4), (16, .iconst 2), (17, .ireturn), (18, .iconst 0), (19, .ireturn)]
set_option maxRecDepth 20000 in
theorem tb_e7 : ∀ q ∈ tb_d7, decode method_9_code q.1 = .ok (q.2, mm_ln q.2) := by decide +kernel
-- 8 IndexedCompilerLaw.get(LIndexedCompiler;II[J)I
def tb_d8 : List (Nat × Instr) := [(0, .aload_n 3), (1, .iconst 0), (2, .aload_n 0), (3, .iload_n 1), (4, .iload_n 2), (5, .invokevirtual 40), (8, .i2l), (9, .lastore), (10, .goto 11), (13, .astore 4), (15, .iconst 1), (16, .ireturn), (17, .astore 4), (19, .iconst 2), (20, .ireturn), (21, .iconst 0), (22, .ireturn)]
set_option maxRecDepth 20000 in
theorem tb_e8 : ∀ q ∈ tb_d8, decode method_10_code q.1 = .ok (q.2, mm_ln q.2) := by decide +kernel
-- 9 IndexedCompilerLaw.value(LIndexedCompiler;II[J)I
def tb_d9 : List (Nat × Instr) := [(0, .aload_n 3), (1, .iconst 0), (2, .aload_n 0), (3, .iload_n 1), (4, .iload_n 2), (5, .invokevirtual 43), (8, .i2l), (9, .lastore), (10, .goto 7), (13, .astore 4), (15, .iconst 1), (16, .ireturn), (17, .iconst 0), (18, .ireturn)]
set_option maxRecDepth 20000 in
theorem tb_e9 : ∀ q ∈ tb_d9, decode method_11_code q.1 = .ok (q.2, mm_ln q.2) := by decide +kernel
-- 10 IndexedCompilerLaw.run(LIndexedCompiler;III[J)I
def tb_d10 : List (Nat × Instr) := [(0, .aload 4), (2, .iconst 0), (3, .aload_n 0), (4, .iload_n 1), (5, .iload_n 2), (6, .iload_n 3), (7, .invokevirtual 46), (10, .i2l), (11, .lastore), (12, .goto 11), (15, .astore 5), (17, .iconst 1), (18, .ireturn), (19, .astore 5), (21, .iconst 2), (22, .ireturn), (23, .iconst 0), (24, .ireturn)]
set_option maxRecDepth 20000 in
theorem tb_e10 : ∀ q ∈ tb_d10, decode method_12_code q.1 = .ok (q.2, mm_ln q.2) := by decide +kernel
-- 11 IndexedCompilerLaw.told(LIndexedCompiler;I[J)I
def tb_d11 : List (Nat × Instr) := [(0, .aload_n 2), (1, .iconst 0), (2, .aload_n 0), (3, .iload_n 1), (4, .invokevirtual 49), (7, .i2l), (8, .lastore), (9, .goto 6), (12, .astore_n 3), (13, .iconst 1), (14, .ireturn), (15, .iconst 0), (16, .ireturn)]
set_option maxRecDepth 20000 in
theorem tb_e11 : ∀ q ∈ tb_d11, decode method_13_code q.1 = .ok (q.2, mm_ln q.2) := by decide +kernel
-- 12 IndexedCompilerLaw.fact(LIndexedCompiler;IIII[J)I
def tb_d12 : List (Nat × Instr) := [(0, .aload 5), (2, .iconst 0), (3, .aload_n 0), (4, .iload_n 1), (5, .iload_n 2), (6, .iload_n 3), (7, .iload 4), (9, .invokevirtual 52), (12, .i2l), (13, .lastore), (14, .goto 11), (17, .astore 6), (19, .iconst 1), (20, .ireturn), (21, .astore 6), (23, .iconst 2), (24, .ireturn), (25, .iconst 0), (26, .ireturn)]
set_option maxRecDepth 20000 in
theorem tb_e12 : ∀ q ∈ tb_d12, decode method_14_code q.1 = .ok (q.2, mm_ln q.2) := by decide +kernel
-- 13 IndexedCompilerLaw.ask(LIndexedCompiler;IIII[J)I
def tb_d13 : List (Nat × Instr) := [(0, .aload 5), (2, .iconst 0), (3, .aload_n 0), (4, .iload_n 1), (5, .iload_n 2), (6, .iload_n 3), (7, .iload 4), (9, .invokevirtual 56), (12, .ifCond .eq 7), (15, .lconst 1), (16, .goto 4), (19, .lconst 0), (20, .lastore), (21, .goto 7), (24, .astore 6), (26, .iconst 1), (27, .ireturn), (28, .iconst 0), (29, .ireturn)]
set_option maxRecDepth 20000 in
theorem tb_e13 : ∀ q ∈ tb_d13, decode method_15_code q.1 = .ok (q.2, mm_ln q.2) := by decide +kernel
-- 14 IndexedCompilerModel.<init>()V
def tb_d14_0 : List (Nat × Instr) := [(0, .aload_n 0), (1, .invokespecial 1), (4, .aload_n 0), (5, .sipush 480), (8, .newarray .char), (10, .putfield 7), (13, .aload_n 0), (14, .sipush 482), (17, .newarray .int), (19, .putfield 13), (22, .aload_n 0), (23, .sipush 482), (26, .newarray .int), (28, .putfield 17)]
set_option maxRecDepth 20000 in
theorem tb_e14_0 : ∀ q ∈ tb_d14_0, decode prog_14_method_1_code q.1 = .ok (q.2, mm_ln q.2) := by decide +kernel
def tb_d14_1 : List (Nat × Instr) := [(31, .aload_n 0), (32, .sipush 482), (35, .newarray .int), (37, .putfield 20), (40, .aload_n 0), (41, .iconst (-1)), (42, .putfield 23), (45, .aload_n 0), (46, .bipush 9), (48, .newarray .int), (50, .putfield 27), (53, .aload_n 0), (54, .bipush 36), (56, .newarray .int)]
set_option maxRecDepth 20000 in
theorem tb_e14_1 : ∀ q ∈ tb_d14_1, decode prog_14_method_1_code q.1 = .ok (q.2, mm_ln q.2) := by decide +kernel
def tb_d14_2 : List (Nat × Instr) := [(58, .putfield 30), (61, .aload_n 0), (62, .bipush 9), (64, .newarray .int), (66, .putfield 33), (69, .aload_n 0), (70, .bipush 9), (72, .newarray .int), (74, .putfield 36), (77, .aload_n 0), (78, .bipush 9), (80, .newarray .int), (82, .putfield 39), (85, .aload_n 0)]
set_option maxRecDepth 20000 in
theorem tb_e14_2 : ∀ q ∈ tb_d14_2, decode prog_14_method_1_code q.1 = .ok (q.2, mm_ln q.2) := by decide +kernel
def tb_d14_3 : List (Nat × Instr) := [(86, .bipush 45), (88, .newarray .int), (90, .putfield 42), (93, .aload_n 0), (94, .bipush 45), (96, .newarray .int), (98, .putfield 45), (101, .aload_n 0), (102, .bipush 9), (104, .newarray .int), (106, .putfield 48), (109, .aload_n 0), (110, .bipush 9), (112, .newarray .int)]
set_option maxRecDepth 20000 in
theorem tb_e14_3 : ∀ q ∈ tb_d14_3, decode prog_14_method_1_code q.1 = .ok (q.2, mm_ln q.2) := by decide +kernel
def tb_d14_4 : List (Nat × Instr) := [(114, .putfield 51), (117, .aload_n 0), (118, .bipush 9), (120, .newarray .int), (122, .putfield 54), (125, .aload_n 0), (126, .sipush 6300), (129, .newarray .int), (131, .putfield 57), (134, .aload_n 0), (135, .sipush 6300), (138, .newarray .int), (140, .putfield 60), (143, .aload_n 0)]
set_option maxRecDepth 20000 in
theorem tb_e14_4 : ∀ q ∈ tb_d14_4, decode prog_14_method_1_code q.1 = .ok (q.2, mm_ln q.2) := by decide +kernel
def tb_d14_5 : List (Nat × Instr) := [(144, .sipush 6300), (147, .newarray .int), (149, .putfield 63), (152, .aload_n 0), (153, .sipush 6300), (156, .newarray .int), (158, .putfield 66), (161, .aload_n 0), (162, .sipush 6300), (165, .newarray .int), (167, .putfield 69), (170, .aload_n 0), (171, .sipush 6300), (174, .newarray .int)]
set_option maxRecDepth 20000 in
theorem tb_e14_5 : ∀ q ∈ tb_d14_5, decode prog_14_method_1_code q.1 = .ok (q.2, mm_ln q.2) := by decide +kernel
def tb_d14_6 : List (Nat × Instr) := [(176, .putfield 72), (179, .aload_n 0), (180, .sipush 6300), (183, .newarray .int), (185, .putfield 75), (188, .aload_n 0), (189, .sipush 6300), (192, .newarray .boolean), (194, .putfield 78), (197, .aload_n 0), (198, .sipush 4500), (201, .newarray .int), (203, .putfield 82), (206, .aload_n 0)]
set_option maxRecDepth 20000 in
theorem tb_e14_6 : ∀ q ∈ tb_d14_6, decode prog_14_method_1_code q.1 = .ok (q.2, mm_ln q.2) := by decide +kernel
def tb_d14_7 : List (Nat × Instr) := [(207, .sipush 4500), (210, .newarray .int), (212, .putfield 85), (215, .aload_n 0), (216, .sipush 4500), (219, .newarray .int), (221, .putfield 88), (224, .aload_n 0), (225, .sipush 2340), (228, .newarray .int), (230, .putfield 91), (233, .aload_n 0), (234, .sipush 2340), (237, .newarray .int)]
set_option maxRecDepth 20000 in
theorem tb_e14_7 : ∀ q ∈ tb_d14_7, decode prog_14_method_1_code q.1 = .ok (q.2, mm_ln q.2) := by decide +kernel
def tb_d14_8 : List (Nat × Instr) := [(239, .putfield 94), (242, .aload_n 0), (243, .sipush 2340), (246, .newarray .int), (248, .putfield 97), (251, .aload_n 0), (252, .sipush 1800), (255, .newarray .int), (257, .putfield 100), (260, .aload_n 0), (261, .sipush 1800), (264, .newarray .int), (266, .putfield 103), (269, .aload_n 0)]
set_option maxRecDepth 20000 in
theorem tb_e14_8 : ∀ q ∈ tb_d14_8, decode prog_14_method_1_code q.1 = .ok (q.2, mm_ln q.2) := by decide +kernel
def tb_d14_9 : List (Nat × Instr) := [(270, .sipush 1800), (273, .newarray .int), (275, .putfield 106), (278, .aload_n 0), (279, .sipush 1440), (282, .newarray .int), (284, .putfield 109), (287, .aload_n 0), (288, .sipush 1440), (291, .newarray .int), (293, .putfield 112), (296, .aload_n 0), (297, .sipush 1440), (300, .newarray .int)]
set_option maxRecDepth 20000 in
theorem tb_e14_9 : ∀ q ∈ tb_d14_9, decode prog_14_method_1_code q.1 = .ok (q.2, mm_ln q.2) := by decide +kernel
def tb_d14_10 : List (Nat × Instr) := [(302, .putfield 115), (305, .aload_n 0), (306, .sipush 1440), (309, .newarray .int), (311, .putfield 118), (314, .aload_n 0), (315, .sipush 1440), (318, .newarray .int), (320, .putfield 121), (323, .aload_n 0), (324, .sipush 2700), (327, .newarray .int), (329, .putfield 124), (332, .aload_n 0)]
set_option maxRecDepth 20000 in
theorem tb_e14_10 : ∀ q ∈ tb_d14_10, decode prog_14_method_1_code q.1 = .ok (q.2, mm_ln q.2) := by decide +kernel
def tb_d14_11 : List (Nat × Instr) := [(333, .bipush 100), (335, .newarray .int), (337, .putfield 127), (340, .aload_n 0), (341, .bipush 100), (343, .newarray .int), (345, .putfield 130), (348, .aload_n 0), (349, .bipush 100), (351, .newarray .int), (353, .putfield 133), (356, .aload_n 0), (357, .bipush 100), (359, .newarray .int)]
set_option maxRecDepth 20000 in
theorem tb_e14_11 : ∀ q ∈ tb_d14_11, decode prog_14_method_1_code q.1 = .ok (q.2, mm_ln q.2) := by decide +kernel
def tb_d14_12 : List (Nat × Instr) := [(361, .putfield 136), (364, .aload_n 0), (365, .bipush 100), (367, .newarray .int), (369, .putfield 139), (372, .aload_n 0), (373, .bipush 100), (375, .newarray .int), (377, .putfield 142), (380, .aload_n 0), (381, .bipush 100), (383, .newarray .int), (385, .putfield 145), (388, .aload_n 0)]
set_option maxRecDepth 20000 in
theorem tb_e14_12 : ∀ q ∈ tb_d14_12, decode prog_14_method_1_code q.1 = .ok (q.2, mm_ln q.2) := by decide +kernel
def tb_d14_13 : List (Nat × Instr) := [(389, .bipush 100), (391, .newarray .int), (393, .putfield 148), (396, .aload_n 0), (397, .sipush 500), (400, .newarray .int), (402, .putfield 151), (405, .aload_n 0), (406, .iconst (-1)), (407, .putfield 154), (410, .aload_n 0), (411, .sipush 200), (414, .newarray .int), (416, .putfield 157)]
set_option maxRecDepth 20000 in
theorem tb_e14_13 : ∀ q ∈ tb_d14_13, decode prog_14_method_1_code q.1 = .ok (q.2, mm_ln q.2) := by decide +kernel
def tb_d14_14 : List (Nat × Instr) := [(419, .aload_n 0), (420, .sipush 200), (423, .newarray .int), (425, .putfield 160), (428, .aload_n 0), (429, .sipush 200), (432, .newarray .int), (434, .putfield 163), (437, .aload_n 0), (438, .sipush 200), (441, .newarray .boolean), (443, .putfield 166), (446, .aload_n 0), (447, .sipush 200)]
set_option maxRecDepth 20000 in
theorem tb_e14_14 : ∀ q ∈ tb_d14_14, decode prog_14_method_1_code q.1 = .ok (q.2, mm_ln q.2) := by decide +kernel
def tb_d14_15 : List (Nat × Instr) := [(450, .newarray .int), (452, .putfield 169), (455, .aload_n 0), (456, .sipush 200), (459, .newarray .int), (461, .putfield 172), (464, .aload_n 0), (465, .sipush 1200), (468, .newarray .long), (470, .putfield 175), (473, .aload_n 0), (474, .bipush 24), (476, .newarray .int), (478, .putfield 179)]
set_option maxRecDepth 20000 in
theorem tb_e14_15 : ∀ q ∈ tb_d14_15, decode prog_14_method_1_code q.1 = .ok (q.2, mm_ln q.2) := by decide +kernel
def tb_d14_16 : List (Nat × Instr) := [(481, .aload_n 0), (482, .bipush 24), (484, .newarray .int), (486, .putfield 182), (489, .aload_n 0), (490, .sipush 600), (493, .newarray .long), (495, .putfield 185), (498, .aload_n 0), (499, .sipush 7500), (502, .newarray .long), (504, .putfield 188), (507, .aload_n 0), (508, .sipush 300)]
set_option maxRecDepth 20000 in
theorem tb_e14_16 : ∀ q ∈ tb_d14_16, decode prog_14_method_1_code q.1 = .ok (q.2, mm_ln q.2) := by decide +kernel
def tb_d14_17 : List (Nat × Instr) := [(511, .newarray .boolean), (513, .putfield 191), (516, .aload_n 0), (517, .bipush 25), (519, .newarray .long), (521, .putfield 194), (524, .aload_n 0), (525, .bipush 25), (527, .newarray .long), (529, .putfield 197), (532, .aload_n 0), (533, .bipush 25), (535, .newarray .long), (537, .putfield 200)]
set_option maxRecDepth 20000 in
theorem tb_e14_17 : ∀ q ∈ tb_d14_17, decode prog_14_method_1_code q.1 = .ok (q.2, mm_ln q.2) := by decide +kernel
def tb_d14_18 : List (Nat × Instr) := [(540, .aload_n 0), (541, .bipush 25), (543, .newarray .long), (545, .putfield 203), (548, .aload_n 0), (549, .iconst (-1)), (550, .putfield 206), (553, .aload_n 0), (554, .iconst (-1)), (555, .putfield 209), (558, .aload_n 0), (559, .sipush 2100), (562, .newarray .long), (564, .putfield 212)]
set_option maxRecDepth 20000 in
theorem tb_e14_18 : ∀ q ∈ tb_d14_18, decode prog_14_method_1_code q.1 = .ok (q.2, mm_ln q.2) := by decide +kernel
def tb_d14_19 : List (Nat × Instr) := [(567, .aload_n 0), (568, .sipush 2100), (571, .newarray .long), (573, .putfield 215), (576, .aload_n 0), (577, .bipush 25), (579, .newarray .long), (581, .putfield 218), (584, .aload_n 0), (585, .sipush 700), (588, .newarray .int), (590, .putfield 221), (593, .aload_n 0), (594, .sipush 700)]
set_option maxRecDepth 20000 in
theorem tb_e14_19 : ∀ q ∈ tb_d14_19, decode prog_14_method_1_code q.1 = .ok (q.2, mm_ln q.2) := by decide +kernel
def tb_d14_20 : List (Nat × Instr) := [(597, .newarray .int), (599, .putfield 224), (602, .aload_n 0), (603, .sipush 700), (606, .newarray .int), (608, .putfield 227), (611, .aload_n 0), (612, .sipush 700), (615, .newarray .int), (617, .putfield 230), (620, .aload_n 0), (621, .sipush 700), (624, .newarray .int), (626, .putfield 233)]
set_option maxRecDepth 20000 in
theorem tb_e14_20 : ∀ q ∈ tb_d14_20, decode prog_14_method_1_code q.1 = .ok (q.2, mm_ln q.2) := by decide +kernel
def tb_d14_21 : List (Nat × Instr) := [(629, .aload_n 0), (630, .sipush 700), (633, .newarray .int), (635, .putfield 236), (638, .aload_n 0), (639, .sipush 700), (642, .newarray .int), (644, .putfield 239), (647, .aload_n 0), (648, .sipush 700), (651, .newarray .int), (653, .putfield 242), (656, .aload_n 0), (657, .sipush 700)]
set_option maxRecDepth 20000 in
theorem tb_e14_21 : ∀ q ∈ tb_d14_21, decode prog_14_method_1_code q.1 = .ok (q.2, mm_ln q.2) := by decide +kernel
def tb_d14_22 : List (Nat × Instr) := [(660, .newarray .int), (662, .putfield 245), (665, .aload_n 0), (666, .bipush 8), (668, .newarray .int), (670, .putfield 248), (673, .aload_n 0), (674, .sipush 9600), (677, .newarray .int), (679, .putfield 251), (682, .aload_n 0), (683, .sipush 9600), (686, .newarray .int), (688, .putfield 254)]
set_option maxRecDepth 20000 in
theorem tb_e14_22 : ∀ q ∈ tb_d14_22, decode prog_14_method_1_code q.1 = .ok (q.2, mm_ln q.2) := by decide +kernel
def tb_d14_23 : List (Nat × Instr) := [(691, .aload_n 0), (692, .sipush 9600), (695, .newarray .boolean), (697, .putfield 257), (700, .aload_n 0), (701, .bipush 16), (703, .newarray .int), (705, .putfield 260), (708, .aload_n 0), (709, .bipush 6), (711, .newarray .boolean), (713, .putfield 263), (716, .aload_n 0), (717, .bipush 6)]
set_option maxRecDepth 20000 in
theorem tb_e14_23 : ∀ q ∈ tb_d14_23, decode prog_14_method_1_code q.1 = .ok (q.2, mm_ln q.2) := by decide +kernel
def tb_d14_24 : List (Nat × Instr) := [(719, .newarray .int), (721, .putfield 266), (724, .aload_n 0), (725, .sipush 240), (728, .newarray .int), (730, .putfield 269), (733, .aload_n 0), (734, .iconst 4), (735, .newarray .int), (737, .putfield 272), (740, .aload_n 0), (741, .sipush 600), (744, .newarray .int), (746, .putfield 275)]
set_option maxRecDepth 20000 in
theorem tb_e14_24 : ∀ q ∈ tb_d14_24, decode prog_14_method_1_code q.1 = .ok (q.2, mm_ln q.2) := by decide +kernel
def tb_d14_25 : List (Nat × Instr) := [(749, .aload_n 0), (750, .sipush 200), (753, .newarray .int), (755, .putfield 278), (758, .aload_n 0), (759, .bipush 60), (761, .newarray .int), (763, .putfield 281), (766, .aload_n 0), (767, .bipush 60), (769, .newarray .int), (771, .putfield 284), (774, .aload_n 0), (775, .sipush 960)]
set_option maxRecDepth 20000 in
theorem tb_e14_25 : ∀ q ∈ tb_d14_25, decode prog_14_method_1_code q.1 = .ok (q.2, mm_ln q.2) := by decide +kernel
def tb_d14_26 : List (Nat × Instr) := [(778, .newarray .int), (780, .putfield 287), (783, .aload_n 0), (784, .bipush 100), (786, .newarray .int), (788, .putfield 290), (791, .aload_n 0), (792, .iconst (-1)), (793, .putfield 293), (796, .aload_n 0), (797, .iconst 5), (798, .newarray .int), (800, .putfield 296), (803, .aload_n 0)]
set_option maxRecDepth 20000 in
theorem tb_e14_26 : ∀ q ∈ tb_d14_26, decode prog_14_method_1_code q.1 = .ok (q.2, mm_ln q.2) := by decide +kernel
def tb_d14_27 : List (Nat × Instr) := [(804, .sipush 1000), (807, .newarray .long), (809, .putfield 299), (812, .return_)]
set_option maxRecDepth 20000 in
theorem tb_e14_27 : ∀ q ∈ tb_d14_27, decode prog_14_method_1_code q.1 = .ok (q.2, mm_ln q.2) := by decide +kernel
def tb_d14 : List (Nat × Instr) := tb_d14_0 ++ (tb_d14_1 ++ (tb_d14_2 ++ (tb_d14_3 ++ (tb_d14_4 ++ (tb_d14_5 ++ (tb_d14_6 ++ (tb_d14_7 ++ (tb_d14_8 ++ (tb_d14_9 ++ (tb_d14_10 ++ (tb_d14_11 ++ (tb_d14_12 ++ (tb_d14_13 ++ (tb_d14_14 ++ (tb_d14_15 ++ (tb_d14_16 ++ (tb_d14_17 ++ (tb_d14_18 ++ (tb_d14_19 ++ (tb_d14_20 ++ (tb_d14_21 ++ (tb_d14_22 ++ (tb_d14_23 ++ (tb_d14_24 ++ (tb_d14_25 ++ (tb_d14_26 ++ (tb_d14_27)))))))))))))))))))))))))))
theorem tb_e14 : ∀ q ∈ tb_d14, decode prog_14_method_1_code q.1 = .ok (q.2, mm_ln q.2) := List.forall_mem_append.mpr ⟨tb_e14_0, List.forall_mem_append.mpr ⟨tb_e14_1, List.forall_mem_append.mpr ⟨tb_e14_2, List.forall_mem_append.mpr ⟨tb_e14_3, List.forall_mem_append.mpr ⟨tb_e14_4, List.forall_mem_append.mpr ⟨tb_e14_5, List.forall_mem_append.mpr ⟨tb_e14_6, List.forall_mem_append.mpr ⟨tb_e14_7, List.forall_mem_append.mpr ⟨tb_e14_8, List.forall_mem_append.mpr ⟨tb_e14_9, List.forall_mem_append.mpr ⟨tb_e14_10, List.forall_mem_append.mpr ⟨tb_e14_11, List.forall_mem_append.mpr ⟨tb_e14_12, List.forall_mem_append.mpr ⟨tb_e14_13, List.forall_mem_append.mpr ⟨tb_e14_14, List.forall_mem_append.mpr ⟨tb_e14_15, List.forall_mem_append.mpr ⟨tb_e14_16, List.forall_mem_append.mpr ⟨tb_e14_17, List.forall_mem_append.mpr ⟨tb_e14_18, List.forall_mem_append.mpr ⟨tb_e14_19, List.forall_mem_append.mpr ⟨tb_e14_20, List.forall_mem_append.mpr ⟨tb_e14_21, List.forall_mem_append.mpr ⟨tb_e14_22, List.forall_mem_append.mpr ⟨tb_e14_23, List.forall_mem_append.mpr ⟨tb_e14_24, List.forall_mem_append.mpr ⟨tb_e14_25, List.forall_mem_append.mpr ⟨tb_e14_26, tb_e14_27⟩⟩⟩⟩⟩⟩⟩⟩⟩⟩⟩⟩⟩⟩⟩⟩⟩⟩⟩⟩⟩⟩⟩⟩⟩⟩⟩
-- 15 IndexedCompilerModel.thrown()I
def tb_d15 : List (Nat × Instr) := [(0, .aload_n 0), (1, .getfield 302), (4, .ireturn)]
set_option maxRecDepth 20000 in
theorem tb_e15 : ∀ q ∈ tb_d15, decode prog_14_method_2_code q.1 = .ok (q.2, mm_ln q.2) := by decide +kernel
-- 16 IndexedCompilerModel.refused(I)Z
def tb_d16 : List (Nat × Instr) := [(0, .aload_n 0), (1, .iload_n 1), (2, .putfield 302), (5, .iload_n 1), (6, .ifCond .le 7), (9, .iconst 1), (10, .goto 4), (13, .iconst 0), (14, .ireturn)]
set_option maxRecDepth 20000 in
theorem tb_e16 : ∀ q ∈ tb_d16, decode prog_14_method_3_code q.1 = .ok (q.2, mm_ln q.2) := by decide +kernel
-- 17 IndexedCompilerModel.isIn(JJJ)Z
def tb_d17 : List (Nat × Instr) := [(0, .lload_n 0), (1, .lload_n 2), (2, .lcmp), (3, .ifCond .lt 14), (6, .lload_n 0), (7, .lload 4), (9, .lcmp), (10, .ifCond .gt 7), (13, .iconst 1), (14, .goto 4), (17, .iconst 0), (18, .ireturn)]
set_option maxRecDepth 20000 in
theorem tb_e17 : ∀ q ∈ tb_d17, decode prog_14_method_4_code q.1 = .ok (q.2, mm_ln q.2) := by decide +kernel
-- 18 IndexedCompilerModel.put(II)V
def tb_d18 : List (Nat × Instr) := [(0, .iload_n 1), (1, .iload_n 2), (2, .ishr), (3, .sipush 255), (6, .iand), (7, .istore_n 3), (8, .iload_n 3), (9, .ifCond .le 34), (12, .aload_n 0), (13, .getfield 305), (16, .sipush 480), (19, .if_icmp .ge 14), (22, .aload_n 0), (23, .getfield 7), (26, .aload_n 0), (27, .getfield 305), (30, .iload_n 3), (31, .i2c), (32, .castore), (33, .aload_n 0), (34, .dup), (35, .getfield 305), (38, .iconst 1), (39, .iadd), (40, .putfield 305), (43, .return_)]
set_option maxRecDepth 20000 in
theorem tb_e18 : ∀ q ∈ tb_d18, decode prog_14_method_5_code q.1 = .ok (q.2, mm_ln q.2) := by decide +kernel
-- 19 IndexedCompilerModel.type(IIIII)I
def tb_d19 : List (Nat × Instr) := [(0, .aload_n 0), (1, .getfield 305), (4, .istore 6), (6, .iconst 0), (7, .istore 7), (9, .iload 7), (11, .iconst 5), (12, .if_icmp .ge 80), (15, .iload 7), (17, .ifCond .ne 7), (20, .iload_n 1), (21, .goto 36), (24, .iload 7), (26, .iconst 1), (27, .if_icmp .ne 7), (30, .iload_n 2), (31, .goto 26), (34, .iload 7), (36, .iconst 2), (37, .if_icmp .ne 7), (40, .iload_n 3), (41, .goto 16), (44, .iload 7), (46, .iconst 3), (47, .if_icmp .ne 8), (50, .iload 4), (52, .goto 5), (55, .iload 5), (57, .istore 8), (59, .bipush 24), (61, .istore 9), (63, .iload 9), (65, .ifCond .lt 21), (68, .aload_n 0), (69, .iload 8), (71, .iload 9), (73, .invokevirtual 308), (76, .iload 9), (78, .bipush 8), (80, .isub), (81, .istore 9), (83, .goto (-20)), (86, .iinc 7 1), (89, .goto (-80)), (92, .aload_n 0), (93, .aload_n 0), (94, .getfield 305), (97, .sipush 480), (100, .if_icmp .le 7), (103, .iconst 1), (104, .goto 4), (107, .iconst 0), (108, .invokevirtual 312), (111, .ifCond .eq 11), (114, .aload_n 0), (115, .iload 6), (117, .putfield 305), (120, .iconst 0), (121, .ireturn), (122, .aload_n 0), (123, .getfield 305), (126, .ireturn)]
set_option maxRecDepth 20000 in
theorem tb_e19 : ∀ q ∈ tb_d19, decode prog_14_method_6_code q.1 = .ok (q.2, mm_ln q.2) := by decide +kernel
-- 20 IndexedCompilerModel.erase()I
def tb_d20 : List (Nat × Instr) := [(0, .aload_n 0), (1, .iconst 0), (2, .putfield 302), (5, .aload_n 0), (6, .getfield 305), (9, .istore_n 1), (10, .aload_n 0), (11, .iconst 0), (12, .putfield 305), (15, .iload_n 1), (16, .ireturn)]
set_option maxRecDepth 20000 in
theorem tb_e20 : ∀ q ∈ tb_d20, decode prog_14_method_7_code q.1 = .ok (q.2, mm_ln q.2) := by decide +kernel
-- 21 IndexedCompilerModel.tokens()V
def tb_d21_0 : List (Nat × Instr) := [(0, .iconst 0), (1, .istore_n 1), (2, .iconst 0), (3, .istore_n 2), (4, .iload_n 2), (5, .aload_n 0), (6, .getfield 305), (9, .if_icmp .ge 314), (12, .aload_n 0), (13, .getfield 7), (16, .iload_n 2), (17, .caload), (18, .istore_n 3), (19, .iload_n 3), (20, .bipush 32), (22, .if_icmp .ne 9), (25, .iinc 2 1), (28, .goto (-24)), (31, .iload_n 2), (32, .istore 4), (34, .aload_n 0), (35, .getfield 17), (38, .iload_n 1), (39, .iload 4), (41, .iastore), (42, .iconst 0), (43, .istore 5), (45, .iload_n 3), (46, .invokestatic 316), (49, .ifCond .eq 76), (52, .aload_n 0), (53, .iload_n 2), (54, .invokevirtual 320)]
set_option maxRecDepth 20000 in
theorem tb_e21_0 : ∀ q ∈ tb_d21_0, decode prog_14_method_12_code q.1 = .ok (q.2, mm_ln q.2) := by decide +kernel
def tb_d21_1 : List (Nat × Instr) := [(57, .invokestatic 316), (60, .ifCond .eq 42), (63, .iload_n 2), (64, .iload 4), (66, .isub), (67, .bipush 6), (69, .if_icmp .ge 23), (72, .bipush 27), (74, .iload 5), (76, .imul), (77, .aload_n 0), (78, .getfield 7), (81, .iload_n 2), (82, .caload), (83, .iadd), (84, .bipush 97), (86, .isub), (87, .iconst 1), (88, .iadd), (89, .goto 5), (92, .iload 5), (94, .istore 5), (96, .iinc 2 1), (99, .goto (-47)), (102, .aload_n 0), (103, .getfield 13), (106, .iload_n 1), (107, .iload_n 2), (108, .iload 4), (110, .isub), (111, .bipush 6), (113, .if_icmp .le 7), (116, .iconst 4)]
set_option maxRecDepth 20000 in
theorem tb_e21_1 : ∀ q ∈ tb_d21_1, decode prog_14_method_12_code q.1 = .ok (q.2, mm_ln q.2) := by decide +kernel
def tb_d21_2 : List (Nat × Instr) := [(117, .goto 4), (120, .iconst 1), (121, .iastore), (122, .goto 187), (125, .iload_n 3), (126, .invokestatic 324), (129, .ifCond .eq 72), (132, .aload_n 0), (133, .iload_n 2), (134, .invokevirtual 320), (137, .invokestatic 324), (140, .ifCond .eq 39), (143, .iload_n 2), (144, .iload 4), (146, .isub), (147, .iconst 3), (148, .if_icmp .ge 21), (151, .bipush 10), (153, .iload 5), (155, .imul), (156, .aload_n 0), (157, .getfield 7), (160, .iload_n 2), (161, .caload), (162, .iadd), (163, .bipush 48), (165, .isub), (166, .goto 5), (169, .iload 5), (171, .istore 5), (173, .iinc 2 1), (176, .goto (-44)), (179, .aload_n 0)]
set_option maxRecDepth 20000 in
theorem tb_e21_2 : ∀ q ∈ tb_d21_2, decode prog_14_method_12_code q.1 = .ok (q.2, mm_ln q.2) := by decide +kernel
def tb_d21_3 : List (Nat × Instr) := [(180, .getfield 13), (183, .iload_n 1), (184, .iload_n 2), (185, .iload 4), (187, .isub), (188, .iconst 3), (189, .if_icmp .le 7), (192, .iconst 4), (193, .goto 4), (196, .iconst 2), (197, .iastore), (198, .goto 111), (201, .iload_n 3), (202, .bipush 58), (204, .if_icmp .eq 15), (207, .iload_n 3), (208, .bipush 60), (210, .if_icmp .eq 9), (213, .iload_n 3), (214, .bipush 62), (216, .if_icmp .ne 19), (219, .aload_n 0), (220, .iload_n 2), (221, .iconst 1), (222, .iadd), (223, .invokevirtual 320), (226, .bipush 61), (228, .if_icmp .ne 7), (231, .iconst 1), (232, .goto 4), (235, .iconst 0), (236, .istore 6), (238, .iload 6)]
set_option maxRecDepth 20000 in
theorem tb_e21_3 : ∀ q ∈ tb_d21_3, decode prog_14_method_12_code q.1 = .ok (q.2, mm_ln q.2) := by decide +kernel
def tb_d21_4 : List (Nat × Instr) := [(240, .ifCond .ne 7), (243, .iload_n 3), (244, .goto 30), (247, .iload_n 3), (248, .bipush 58), (250, .if_icmp .ne 9), (253, .sipush 130), (256, .goto 18), (259, .iload_n 3), (260, .bipush 60), (262, .if_icmp .ne 9), (265, .sipush 128), (268, .goto 6), (271, .sipush 129), (274, .istore 5), (276, .iload 6), (278, .ifCond .eq 9), (281, .iload_n 2), (282, .iconst 2), (283, .iadd), (284, .goto 6), (287, .iload_n 2), (288, .iconst 1), (289, .iadd), (290, .istore_n 2), (291, .aload_n 0), (292, .getfield 13), (295, .iload_n 1), (296, .iload_n 3), (297, .invokestatic 327), (300, .ifCond .eq 7), (303, .iconst 3), (304, .goto 4)]
set_option maxRecDepth 20000 in
theorem tb_e21_4 : ∀ q ∈ tb_d21_4, decode prog_14_method_12_code q.1 = .ok (q.2, mm_ln q.2) := by decide +kernel
def tb_d21_5 : List (Nat × Instr) := [(307, .iconst 4), (308, .iastore), (309, .aload_n 0), (310, .getfield 20), (313, .iload_n 1), (314, .iload 5), (316, .iastore), (317, .iinc 1 1), (320, .goto (-316)), (323, .aload_n 0), (324, .getfield 13), (327, .iload_n 1), (328, .iconst 0), (329, .iastore), (330, .aload_n 0), (331, .getfield 17), (334, .iload_n 1), (335, .aload_n 0), (336, .getfield 305), (339, .iastore), (340, .aload_n 0), (341, .getfield 20), (344, .iload_n 1), (345, .iconst 0), (346, .iastore), (347, .aload_n 0), (348, .iconst 0), (349, .putfield 330), (352, .aload_n 0), (353, .iconst 0), (354, .putfield 333), (357, .return_)]
set_option maxRecDepth 20000 in
theorem tb_e21_5 : ∀ q ∈ tb_d21_5, decode prog_14_method_12_code q.1 = .ok (q.2, mm_ln q.2) := by decide +kernel
def tb_d21 : List (Nat × Instr) := tb_d21_0 ++ (tb_d21_1 ++ (tb_d21_2 ++ (tb_d21_3 ++ (tb_d21_4 ++ (tb_d21_5)))))
theorem tb_e21 : ∀ q ∈ tb_d21, decode prog_14_method_12_code q.1 = .ok (q.2, mm_ln q.2) := List.forall_mem_append.mpr ⟨tb_e21_0, List.forall_mem_append.mpr ⟨tb_e21_1, List.forall_mem_append.mpr ⟨tb_e21_2, List.forall_mem_append.mpr ⟨tb_e21_3, List.forall_mem_append.mpr ⟨tb_e21_4, tb_e21_5⟩⟩⟩⟩⟩
-- 22 IndexedCompilerModel.wrong()V
def tb_d22 : List (Nat × Instr) := [(0, .aload_n 0), (1, .getfield 333), (4, .ifCond .ne 16), (7, .aload_n 0), (8, .aload_n 0), (9, .getfield 17), (12, .aload_n 0), (13, .getfield 330), (16, .iaload), (17, .putfield 339), (20, .aload_n 0), (21, .iconst 1), (22, .putfield 333), (25, .return_)]
set_option maxRecDepth 20000 in
theorem tb_e22 : ∀ q ∈ tb_d22, decode prog_14_method_14_code q.1 = .ok (q.2, mm_ln q.2) := by decide +kernel
-- 23 IndexedCompilerModel.isMarkHere(I)Z
def tb_d23 : List (Nat × Instr) := [(0, .aload_n 0), (1, .getfield 13), (4, .aload_n 0), (5, .getfield 330), (8, .iaload), (9, .iconst 3), (10, .if_icmp .ne 20), (13, .aload_n 0), (14, .getfield 20), (17, .aload_n 0), (18, .getfield 330), (21, .iaload), (22, .iload_n 1), (23, .if_icmp .ne 7), (26, .iconst 1), (27, .goto 4), (30, .iconst 0), (31, .ireturn)]
set_option maxRecDepth 20000 in
theorem tb_e23 : ∀ q ∈ tb_d23, decode prog_14_method_15_code q.1 = .ok (q.2, mm_ln q.2) := by decide +kernel
-- 24 IndexedCompilerModel.isWordHere(I)Z
def tb_d24 : List (Nat × Instr) := [(0, .aload_n 0), (1, .getfield 13), (4, .aload_n 0), (5, .getfield 330), (8, .iaload), (9, .iconst 1), (10, .if_icmp .ne 20), (13, .aload_n 0), (14, .getfield 20), (17, .aload_n 0), (18, .getfield 330), (21, .iaload), (22, .iload_n 1), (23, .if_icmp .ne 7), (26, .iconst 1), (27, .goto 4), (30, .iconst 0), (31, .ireturn)]
set_option maxRecDepth 20000 in
theorem tb_e24 : ∀ q ∈ tb_d24, decode prog_14_method_16_code q.1 = .ok (q.2, mm_ln q.2) := by decide +kernel
-- 25 IndexedCompilerModel.isNameHere()Z
def tb_d25 : List (Nat × Instr) := [(0, .aload_n 0), (1, .getfield 13), (4, .aload_n 0), (5, .getfield 330), (8, .iaload), (9, .iconst 1), (10, .if_icmp .ne 22), (13, .aload_n 0), (14, .getfield 20), (17, .aload_n 0), (18, .getfield 330), (21, .iaload), (22, .invokestatic 342), (25, .ifCond .ne 7), (28, .iconst 1), (29, .goto 4), (32, .iconst 0), (33, .ireturn)]
set_option maxRecDepth 20000 in
theorem tb_e25 : ∀ q ∈ tb_d25, decode prog_14_method_17_code q.1 = .ok (q.2, mm_ln q.2) := by decide +kernel
-- 26 IndexedCompilerModel.wantMark(I)V
def tb_d26 : List (Nat × Instr) := [(0, .aload_n 0), (1, .getfield 333), (4, .ifCond .eq 4), (7, .return_), (8, .aload_n 0), (9, .iload_n 1), (10, .invokevirtual 345), (13, .ifCond .eq 16), (16, .aload_n 0), (17, .dup), (18, .getfield 330), (21, .iconst 1), (22, .iadd), (23, .putfield 330), (26, .goto 7), (29, .aload_n 0), (30, .invokevirtual 348), (33, .return_)]
set_option maxRecDepth 20000 in
theorem tb_e26 : ∀ q ∈ tb_d26, decode prog_14_method_18_code q.1 = .ok (q.2, mm_ln q.2) := by decide +kernel
-- 27 IndexedCompilerModel.wantWord(I)V
def tb_d27 : List (Nat × Instr) := [(0, .aload_n 0), (1, .getfield 333), (4, .ifCond .eq 4), (7, .return_), (8, .aload_n 0), (9, .iload_n 1), (10, .invokevirtual 351), (13, .ifCond .eq 16), (16, .aload_n 0), (17, .dup), (18, .getfield 330), (21, .iconst 1), (22, .iadd), (23, .putfield 330), (26, .goto 7), (29, .aload_n 0), (30, .invokevirtual 348), (33, .return_)]
set_option maxRecDepth 20000 in
theorem tb_e27 : ∀ q ∈ tb_d27, decode prog_14_method_19_code q.1 = .ok (q.2, mm_ln q.2) := by decide +kernel
-- 28 IndexedCompilerModel.wantName()I
def tb_d28 : List (Nat × Instr) := [(0, .aload_n 0), (1, .getfield 333), (4, .ifCond .ne 10), (7, .aload_n 0), (8, .invokevirtual 354), (11, .ifCond .ne 9), (14, .aload_n 0), (15, .invokevirtual 348), (18, .iconst 0), (19, .ireturn), (20, .aload_n 0), (21, .dup), (22, .getfield 330), (25, .iconst 1), (26, .iadd), (27, .putfield 330), (30, .aload_n 0), (31, .getfield 20), (34, .aload_n 0), (35, .getfield 330), (38, .iconst 1), (39, .isub), (40, .iaload), (41, .ireturn)]
set_option maxRecDepth 20000 in
theorem tb_e28 : ∀ q ∈ tb_d28, decode prog_14_method_20_code q.1 = .ok (q.2, mm_ln q.2) := by decide +kernel
-- 29 IndexedCompilerModel.readFunction(I)Z
def tb_d29_0 : List (Nat × Instr) := [(0, .aload_n 0), (1, .invokevirtual 409), (4, .aload_n 0), (5, .sipush 700), (8, .iload_n 1), (9, .imul), (10, .putfield 358), (13, .aload_n 0), (14, .sipush 500), (17, .iload_n 1), (18, .imul), (19, .putfield 368), (22, .aload_n 0), (23, .sipush 260), (26, .iload_n 1), (27, .imul), (28, .putfield 371), (31, .aload_n 0), (32, .sipush 200), (35, .iload_n 1), (36, .imul), (37, .putfield 384), (40, .aload_n 0), (41, .sipush 160), (44, .iload_n 1), (45, .imul), (46, .putfield 387), (49, .aload_n 0), (50, .sipush 300), (53, .iload_n 1), (54, .imul), (55, .putfield 412), (58, .aload_n 0), (59, .getfield 33), (62, .iload_n 1), (63, .iconst 0), (64, .iastore), (65, .aload_n 0), (66, .getfield 48), (69, .iload_n 1)]
set_option maxRecDepth 20000 in
theorem tb_e29_0 : ∀ q ∈ tb_d29_0, decode prog_14_method_32_code q.1 = .ok (q.2, mm_ln q.2) := by decide +kernel
def tb_d29_1 : List (Nat × Instr) := [(70, .iconst 0), (71, .iastore), (72, .aload_n 0), (73, .getfield 39), (76, .iload_n 1), (77, .iconst 0), (78, .iastore), (79, .aload_n 0), (80, .getfield 36), (83, .iload_n 1), (84, .aload_n 0), (85, .getfield 384), (88, .iastore), (89, .aload_n 0), (90, .iconst (-1)), (91, .putfield 396), (94, .aload_n 0), (95, .sipush 4955), (98, .invokevirtual 415), (101, .aload_n 0), (102, .getfield 17), (105, .aload_n 0), (106, .getfield 330), (109, .iaload), (110, .istore_n 2), (111, .aload_n 0), (112, .getfield 27), (115, .iload_n 1), (116, .aload_n 0), (117, .invokevirtual 364), (120, .iastore), (121, .aload_n 0), (122, .getfield 333), (125, .ifCond .ne 27), (128, .aload_n 0), (129, .bipush 123), (131, .invokevirtual 345), (134, .ifCond .eq 18), (137, .aload_n 0), (138, .dup)]
set_option maxRecDepth 20000 in
theorem tb_e29_1 : ∀ q ∈ tb_d29_1, decode prog_14_method_32_code q.1 = .ok (q.2, mm_ln q.2) := by decide +kernel
def tb_d29_2 : List (Nat × Instr) := [(139, .getfield 330), (142, .iconst 1), (143, .iadd), (144, .putfield 330), (147, .aload_n 0), (148, .iload_n 1), (149, .invokevirtual 418), (152, .aload_n 0), (153, .bipush 40), (155, .invokevirtual 390), (158, .aload_n 0), (159, .getfield 333), (162, .ifCond .ne 8), (165, .aload_n 0), (166, .iload_n 1), (167, .invokevirtual 421), (170, .aload_n 0), (171, .bipush 58), (173, .invokevirtual 390), (176, .aload_n 0), (177, .getfield 51), (180, .iload_n 1), (181, .aload_n 0), (182, .getfield 333), (185, .ifCond .eq 7), (188, .iconst 0), (189, .goto 7), (192, .aload_n 0), (193, .invokevirtual 406), (196, .iastore), (197, .aload_n 0), (198, .bipush 61), (200, .invokevirtual 390), (203, .aload_n 0), (204, .getfield 333), (207, .ifCond .ne 13), (210, .aload_n 0), (211, .getfield 54), (214, .iload_n 1), (215, .aload_n 0)]
set_option maxRecDepth 20000 in
theorem tb_e29_2 : ∀ q ∈ tb_d29_2, decode prog_14_method_32_code q.1 = .ok (q.2, mm_ln q.2) := by decide +kernel
def tb_d29_3 : List (Nat × Instr) := [(216, .invokevirtual 424), (219, .iastore), (220, .aload_n 0), (221, .getfield 333), (224, .ifCond .ne 19), (227, .aload_n 0), (228, .getfield 13), (231, .aload_n 0), (232, .getfield 330), (235, .iaload), (236, .ifCond .eq 7), (239, .aload_n 0), (240, .invokevirtual 348), (243, .iconst 0), (244, .istore_n 3), (245, .iload_n 3), (246, .iload_n 1), (247, .if_icmp .ge 36), (250, .aload_n 0), (251, .getfield 396), (254, .ifCond .ge 29), (257, .aload_n 0), (258, .getfield 27), (261, .iload_n 3), (262, .iaload), (263, .aload_n 0), (264, .getfield 27), (267, .iload_n 1), (268, .iaload), (269, .if_icmp .ne 8), (272, .aload_n 0), (273, .iload_n 2), (274, .putfield 396), (277, .iinc 3 1), (280, .goto (-35)), (283, .aload_n 0), (284, .getfield 333), (287, .ifCond .ne 7), (290, .iconst 1), (291, .goto 4)]
set_option maxRecDepth 20000 in
theorem tb_e29_3 : ∀ q ∈ tb_d29_3, decode prog_14_method_32_code q.1 = .ok (q.2, mm_ln q.2) := by decide +kernel
def tb_d29_4 : List (Nat × Instr) := [(294, .iconst 0), (295, .ireturn)]
set_option maxRecDepth 20000 in
theorem tb_e29_4 : ∀ q ∈ tb_d29_4, decode prog_14_method_32_code q.1 = .ok (q.2, mm_ln q.2) := by decide +kernel
def tb_d29 : List (Nat × Instr) := tb_d29_0 ++ (tb_d29_1 ++ (tb_d29_2 ++ (tb_d29_3 ++ (tb_d29_4))))
theorem tb_e29 : ∀ q ∈ tb_d29, decode prog_14_method_32_code q.1 = .ok (q.2, mm_ln q.2) := List.forall_mem_append.mpr ⟨tb_e29_0, List.forall_mem_append.mpr ⟨tb_e29_1, List.forall_mem_append.mpr ⟨tb_e29_2, List.forall_mem_append.mpr ⟨tb_e29_3, tb_e29_4⟩⟩⟩⟩
-- 30 IndexedCompilerModel.define()I
def tb_d30 : List (Nat × Instr) := [(0, .aload_n 0), (1, .iconst 0), (2, .putfield 302), (5, .aload_n 0), (6, .aload_n 0), (7, .getfield 470), (10, .invokevirtual 473), (13, .istore_n 1), (14, .aload_n 0), (15, .aload_n 0), (16, .getfield 333), (19, .ifCond .eq 10), (22, .aload_n 0), (23, .getfield 339), (26, .goto 7), (29, .aload_n 0), (30, .getfield 396), (33, .putfield 23), (36, .iload_n 1), (37, .ifCond .ne 6), (40, .bipush (-2)), (42, .ireturn), (43, .aload_n 0), (44, .getfield 396), (47, .ifCond .lt 6), (50, .bipush (-3)), (52, .ireturn), (53, .aload_n 0), (54, .getfield 470), (57, .bipush 8), (59, .if_icmp .ne 6), (62, .bipush (-4)), (64, .ireturn), (65, .aload_n 0), (66, .dup), (67, .getfield 470), (70, .iconst 1), (71, .iadd), (72, .putfield 470), (75, .aload_n 0), (76, .invokevirtual 476), (79, .aload_n 0), (80, .getfield 470), (83, .iconst 1), (84, .isub), (85, .ireturn)]
set_option maxRecDepth 20000 in
theorem tb_e30 : ∀ q ∈ tb_d30, decode prog_14_method_45_code q.1 = .ok (q.2, mm_ln q.2) := by decide +kernel
-- 31 IndexedCompilerModel.clear()I
def tb_d31 : List (Nat × Instr) := [(0, .aload_n 0), (1, .iconst 0), (2, .putfield 302), (5, .aload_n 0), (6, .getfield 470), (9, .istore_n 1), (10, .aload_n 0), (11, .iconst 0), (12, .putfield 470), (15, .aload_n 0), (16, .invokevirtual 476), (19, .iload_n 1), (20, .ireturn)]
set_option maxRecDepth 20000 in
theorem tb_e31 : ∀ q ∈ tb_d31, decode prog_14_method_46_code q.1 = .ok (q.2, mm_ln q.2) := by decide +kernel
-- 32 IndexedCompilerModel.uncheck()V
def tb_d32 : List (Nat × Instr) := [(0, .aload_n 0), (1, .iconst 0), (2, .putfield 479), (5, .aload_n 0), (6, .iconst 0), (7, .putfield 482), (10, .aload_n 0), (11, .iconst 0), (12, .putfield 485), (15, .aload_n 0), (16, .iconst 0), (17, .putfield 488), (20, .aload_n 0), (21, .iconst (-1)), (22, .putfield 154), (25, .aload_n 0), (26, .iconst 0), (27, .putfield 491), (30, .return_)]
set_option maxRecDepth 20000 in
theorem tb_e32 : ∀ q ∈ tb_d32, decode prog_14_method_47_code q.1 = .ok (q.2, mm_ln q.2) := by decide +kernel
-- 33 IndexedCompilerModel.place()I
def tb_d33 : List (Nat × Instr) := [(0, .aload_n 0), (1, .iconst 0), (2, .putfield 302), (5, .aload_n 0), (6, .getfield 23), (9, .ireturn)]
set_option maxRecDepth 20000 in
theorem tb_e33 : ∀ q ∈ tb_d33, decode prog_14_method_48_code q.1 = .ok (q.2, mm_ln q.2) := by decide +kernel
-- 34 IndexedCompilerModel.check()I
def tb_d34 : List (Nat × Instr) := [(0, .aload_n 0), (1, .iconst 0), (2, .putfield 302), (5, .aload_n 0), (6, .invokevirtual 476), (9, .aload_n 0), (10, .iconst 0), (11, .putfield 494), (14, .aload_n 0), (15, .iconst (-1)), (16, .putfield 23), (19, .iconst 0), (20, .istore_n 1), (21, .iload_n 1), (22, .aload_n 0), (23, .getfield 470), (26, .if_icmp .ge 21), (29, .aload_n 0), (30, .getfield 494), (33, .ifCond .ne 14), (36, .aload_n 0), (37, .iload_n 1), (38, .invokevirtual 725), (41, .iinc 1 1), (44, .goto (-23)), (47, .iconst 0), (48, .istore_n 1), (49, .iload_n 1), (50, .aload_n 0), (51, .getfield 470), (54, .if_icmp .ge 46), (57, .aload_n 0), (58, .getfield 494), (61, .ifCond .ne 39), (64, .aload_n 0), (65, .iload_n 1), (66, .invokevirtual 725), (69, .aload_n 0), (70, .aload_n 0), (71, .getfield 520), (74, .putfield 619), (77, .aload_n 0), (78, .aload_n 0), (79, .getfield 54), (82, .iload_n 1), (83, .iaload), (84, .iconst 1), (85, .aload_n 0), (86, .getfield 51), (89, .iload_n 1), (90, .iaload), (91, .invokevirtual 728), (94, .iinc 1 1), (97, .goto (-48)), (100, .aload_n 0), (101, .getfield 494), (104, .ifCond .eq 22), (107, .aload_n 0), (108, .getfield 154), (111, .istore_n 1), (112, .aload_n 0), (113, .invokevirtual 476), (116, .aload_n 0), (117, .iload_n 1), (118, .putfield 154), (121, .aload_n 0), (122, .getfield 494), (125, .ireturn), (126, .aload_n 0), (127, .iconst 1), (128, .putfield 491), (131, .iconst 0), (132, .istore_n 1), (133, .iload_n 1), (134, .aload_n 0), (135, .getfield 479), (138, .if_icmp .ge 70), (141, .aload_n 0), (142, .aload_n 0), (143, .getfield 166), (146, .iload_n 1), (147, .baload), (148, .ifCond .eq 12), (151, .aload_n 0), (152, .getfield 482), (155, .iconst 1), (156, .iadd), (157, .goto 7), (160, .aload_n 0), (161, .getfield 482), (164, .putfield 482), (167, .aload_n 0), (168, .aload_n 0), (169, .getfield 491), (172, .ifCond .eq 26), (175, .aload_n 0), (176, .getfield 166), (179, .iload_n 1), (180, .baload), (181, .ifCond .ne 13), (184, .aload_n 0), (185, .getfield 163), (188, .iload_n 1), (189, .iaload), (190, .iconst 2), (191, .if_icmp .ge 7), (194, .iconst 1), (195, .goto 4), (198, .iconst 0), (199, .putfield 491), (202, .iinc 1 1), (205, .goto (-72)), (208, .iconst 0), (209, .istore_n 1), (210, .iload_n 1), (211, .aload_n 0), (212, .getfield 470), (215, .if_icmp .ge 21), (218, .aload_n 0), (219, .getfield 491), (222, .ifCond .eq 14), (225, .aload_n 0), (226, .iload_n 1), (227, .invokevirtual 731), (230, .iinc 1 1), (233, .goto (-23)), (236, .aload_n 0), (237, .getfield 491), (240, .ifCond .eq 7), (243, .iconst 1), (244, .goto 4), (247, .iconst 0), (248, .ireturn)]
set_option maxRecDepth 20000 in
theorem tb_e34 : ∀ q ∈ tb_d34, decode prog_14_method_101_code q.1 = .ok (q.2, mm_ln q.2) := by decide +kernel
-- 35 IndexedCompilerModel.count(I)I
def tb_d35 : List (Nat × Instr) := [(0, .aload_n 0), (1, .iload_n 1), (2, .i2l), (3, .lconst 0), (4, .ldc2_w 734), (7, .invokestatic 736), (10, .ifCond .eq 7), (13, .iconst 0), (14, .goto 4), (17, .iconst 1), (18, .invokevirtual 312), (21, .ifCond .eq 5), (24, .iconst 0), (25, .ireturn), (26, .iload_n 1), (60, .aload_n 0), (61, .getfield 470), (64, .ireturn), (65, .aload_n 0), (66, .getfield 479), (69, .ireturn), (70, .aload_n 0), (71, .getfield 482), (74, .ireturn), (75, .aload_n 0), (76, .getfield 485), (79, .ireturn), (80, .aload_n 0), (81, .getfield 488), (84, .ireturn), (85, .aload_n 0), (86, .getfield 154), (89, .ireturn)]
set_option maxRecDepth 20000 in
theorem tb_e35 : ∀ q ∈ tb_d35, decode prog_14_method_102_code q.1 = .ok (q.2, mm_ln q.2) := by decide +kernel
-- 36 IndexedCompilerModel.goal(II)I
def tb_d36 : List (Nat × Instr) := [(0, .aload_n 0), (1, .iload_n 2), (2, .i2l), (3, .lconst 0), (4, .ldc2_w 734), (7, .invokestatic 736), (10, .ifCond .ne 7), (13, .iconst 1), (14, .goto 24), (17, .iload_n 1), (18, .i2l), (19, .lconst 0), (20, .aload_n 0), (21, .getfield 479), (24, .iconst 1), (25, .isub), (26, .i2l), (27, .invokestatic 736), (30, .ifCond .ne 7), (33, .iconst 2), (34, .goto 4), (37, .iconst 0), (38, .invokevirtual 312), (41, .ifCond .eq 5), (44, .iconst 0), (45, .ireturn), (46, .iload_n 2), (80, .aload_n 0), (81, .getfield 157), (84, .iload_n 1), (85, .iaload), (86, .ireturn), (87, .aload_n 0), (88, .getfield 160), (91, .iload_n 1), (92, .iaload), (93, .ireturn), (94, .aload_n 0), (95, .getfield 163), (98, .iload_n 1), (99, .iaload), (100, .ireturn), (101, .aload_n 0), (102, .getfield 166), (105, .iload_n 1), (106, .baload), (107, .ifCond .eq 7), (110, .iconst 1), (111, .goto 4), (114, .iconst 0), (115, .ireturn), (116, .aload_n 0), (117, .getfield 169), (120, .iload_n 1), (121, .iaload), (122, .ireturn), (123, .aload_n 0), (124, .getfield 172), (127, .iload_n 1), (128, .iaload), (129, .ireturn)]
set_option maxRecDepth 20000 in
theorem tb_e36 : ∀ q ∈ tb_d36, decode prog_14_method_103_code q.1 = .ok (q.2, mm_ln q.2) := by decide +kernel
-- 37 IndexedCompilerModel.code(III)I
def tb_d37 : List (Nat × Instr) := [(0, .aload_n 0), (1, .iload_n 2), (2, .i2l), (3, .lconst 0), (4, .lconst 1), (5, .invokestatic 736), (8, .ifCond .eq 7), (11, .iload_n 3), (12, .ifCond .ge 7), (15, .iconst 1), (16, .goto 16), (19, .aload_n 0), (20, .iload_n 1), (21, .invokevirtual 771), (24, .ifCond .ne 7), (27, .iconst 2), (28, .goto 4), (31, .iconst 0), (32, .invokevirtual 312), (35, .ifCond .eq 5), (38, .iconst 0), (39, .ireturn), (40, .iload_n 3), (41, .iconst 2), (42, .idiv), (43, .aload_n 0), (44, .getfield 248), (47, .iload_n 1), (48, .iaload), (49, .if_icmp .lt 5), (52, .iconst (-1)), (53, .ireturn), (54, .sipush 1200), (57, .iload_n 1), (58, .imul), (59, .iload_n 3), (60, .iconst 2), (61, .idiv), (62, .iadd), (63, .istore 4), (65, .iload_n 3), (66, .iconst 2), (67, .irem), (68, .ifCond .ne 13), (71, .aload_n 0), (72, .iload 4), (74, .iload_n 2), (75, .invokevirtual 774), (78, .goto 10), (81, .aload_n 0), (82, .getfield 254), (85, .iload 4), (87, .iaload), (88, .ireturn)]
set_option maxRecDepth 20000 in
theorem tb_e37 : ∀ q ∈ tb_d37, decode prog_14_method_115_code q.1 = .ok (q.2, mm_ln q.2) := by decide +kernel
-- 38 IndexedCompilerModel.isRunnable(I)Z
def tb_d38 : List (Nat × Instr) := [(0, .aload_n 0), (1, .getfield 491), (4, .ifCond .eq 23), (7, .iload_n 1), (8, .i2l), (9, .lconst 0), (10, .aload_n 0), (11, .getfield 470), (14, .iconst 1), (15, .isub), (16, .i2l), (17, .invokestatic 736), (20, .ifCond .eq 7), (23, .iconst 1), (24, .goto 4), (27, .iconst 0), (28, .ireturn)]
set_option maxRecDepth 20000 in
theorem tb_e38 : ∀ q ∈ tb_d38, decode prog_14_method_113_code q.1 = .ok (q.2, mm_ln q.2) := by decide +kernel
-- 39 IndexedCompilerModel.isNumber(I)Z
def tb_d39 : List (Nat × Instr) := [(0, .iload_n 0), (1, .i2l), (2, .ldc2_w 593), (5, .ldc2_w 591), (8, .invokestatic 736), (11, .ireturn)]
set_option maxRecDepth 20000 in
theorem tb_e39 : ∀ q ∈ tb_d39, decode prog_14_method_116_code q.1 = .ok (q.2, mm_ln q.2) := by decide +kernel
-- 40 IndexedCompilerModel.isSlot(I)Z
def tb_d40 : List (Nat × Instr) := [(0, .iload_n 0), (1, .i2l), (2, .lconst 0), (3, .ldc2_w 734), (6, .invokestatic 736), (9, .ireturn)]
set_option maxRecDepth 20000 in
theorem tb_e40 : ∀ q ∈ tb_d40, decode prog_14_method_117_code q.1 = .ok (q.2, mm_ln q.2) := by decide +kernel
-- 41 IndexedCompilerModel.set(II)V
def tb_d41 : List (Nat × Instr) := [(0, .aload_n 0), (1, .iload_n 1), (2, .invokestatic 778), (5, .ifCond .eq 14), (8, .iload_n 2), (9, .invokestatic 781), (12, .ifCond .eq 7), (15, .iconst 0), (16, .goto 4), (19, .iconst 1), (20, .invokevirtual 312), (23, .ifCond .ne 17), (26, .aload_n 0), (27, .getfield 263), (30, .iload_n 1), (31, .iconst 0), (32, .bastore), (33, .aload_n 0), (34, .getfield 266), (37, .iload_n 1), (38, .iload_n 2), (39, .iastore), (40, .return_)]
set_option maxRecDepth 20000 in
theorem tb_e41 : ∀ q ∈ tb_d41, decode prog_14_method_118_code q.1 = .ok (q.2, mm_ln q.2) := by decide +kernel
-- 42 IndexedCompilerModel.make(II)V
def tb_d42 : List (Nat × Instr) := [(0, .aload_n 0), (1, .iload_n 1), (2, .invokestatic 778), (5, .ifCond .eq 19), (8, .iload_n 2), (9, .i2l), (10, .lconst 0), (11, .ldc2_w 784), (14, .invokestatic 736), (17, .ifCond .eq 7), (20, .iconst 0), (21, .goto 4), (24, .iconst 1), (25, .invokevirtual 312), (28, .ifCond .ne 43), (31, .aload_n 0), (32, .getfield 263), (35, .iload_n 1), (36, .iconst 1), (37, .bastore), (38, .aload_n 0), (39, .getfield 266), (42, .iload_n 1), (43, .iload_n 2), (44, .iastore), (45, .iconst 0), (46, .istore_n 3), (47, .iload_n 3), (48, .bipush 40), (50, .if_icmp .ge 21), (53, .aload_n 0), (54, .getfield 269), (57, .bipush 40), (59, .iload_n 1), (60, .imul), (61, .iload_n 3), (62, .iadd), (63, .iconst 0), (64, .iastore), (65, .iinc 3 1), (68, .goto (-21)), (71, .return_)]
set_option maxRecDepth 20000 in
theorem tb_e42 : ∀ q ∈ tb_d42, decode prog_14_method_119_code q.1 = .ok (q.2, mm_ln q.2) := by decide +kernel
-- 43 IndexedCompilerModel.hasNumber(II)Z
def tb_d43 : List (Nat × Instr) := [(0, .aload_n 0), (1, .getfield 263), (4, .iload_n 1), (5, .baload), (6, .ifCond .eq 25), (9, .iload_n 2), (10, .i2l), (11, .lconst 0), (12, .aload_n 0), (13, .getfield 266), (16, .iload_n 1), (17, .iaload), (18, .iconst 1), (19, .isub), (20, .i2l), (21, .invokestatic 736), (24, .ifCond .eq 7), (27, .iconst 1), (28, .goto 4), (31, .iconst 0), (32, .ireturn)]
set_option maxRecDepth 20000 in
theorem tb_e43 : ∀ q ∈ tb_d43, decode prog_14_method_120_code q.1 = .ok (q.2, mm_ln q.2) := by decide +kernel
-- 44 IndexedCompilerModel.put(III)V
def tb_d44 : List (Nat × Instr) := [(0, .iload_n 1), (1, .invokestatic 778), (4, .ifCond .eq 14), (7, .iload_n 3), (8, .invokestatic 781), (11, .ifCond .eq 7), (14, .iconst 1), (15, .goto 4), (18, .iconst 0), (19, .istore 4), (21, .aload_n 0), (22, .iload 4), (24, .ifCond .ne 7), (27, .iconst 1), (28, .goto 17), (31, .aload_n 0), (32, .iload_n 1), (33, .iload_n 2), (34, .invokevirtual 786), (37, .ifCond .ne 7), (40, .iconst 2), (41, .goto 4), (44, .iconst 0), (45, .invokevirtual 312), (48, .ifCond .ne 15), (51, .aload_n 0), (52, .getfield 269), (55, .bipush 40), (57, .iload_n 1), (58, .imul), (59, .iload_n 2), (60, .iadd), (61, .iload_n 3), (62, .iastore), (63, .return_)]
set_option maxRecDepth 20000 in
theorem tb_e44 : ∀ q ∈ tb_d44, decode prog_14_method_121_code q.1 = .ok (q.2, mm_ln q.2) := by decide +kernel
-- 45 IndexedCompilerModel.get(II)I
def tb_d45 : List (Nat × Instr) := [(0, .iload_n 1), (1, .invokestatic 778), (4, .istore_n 3), (5, .aload_n 0), (6, .iload_n 3), (7, .ifCond .ne 7), (10, .iconst 1), (11, .goto 22), (14, .iload_n 2), (15, .iconst (-1)), (16, .if_icmp .eq 16), (19, .aload_n 0), (20, .iload_n 1), (21, .iload_n 2), (22, .invokevirtual 786), (25, .ifCond .ne 7), (28, .iconst 2), (29, .goto 4), (32, .iconst 0), (33, .invokevirtual 312), (36, .ifCond .eq 5), (39, .iconst 0), (40, .ireturn), (41, .iload_n 2), (42, .iconst (-1)), (43, .if_icmp .ne 12), (46, .aload_n 0), (47, .getfield 266), (50, .iload_n 1), (51, .iaload), (52, .goto 14), (55, .aload_n 0), (56, .getfield 269), (59, .bipush 40), (61, .iload_n 1), (62, .imul), (63, .iload_n 2), (64, .iadd), (65, .iaload), (66, .ireturn)]
set_option maxRecDepth 20000 in
theorem tb_e45 : ∀ q ∈ tb_d45, decode prog_14_method_122_code q.1 = .ok (q.2, mm_ln q.2) := by decide +kernel
-- 46 IndexedCompilerModel.value(II)I
def tb_d46 : List (Nat × Instr) := [(0, .aload_n 0), (1, .iload_n 1), (2, .i2l), (3, .lconst 0), (4, .ldc2_w 789), (7, .invokestatic 736), (10, .ifCond .eq 14), (13, .iload_n 2), (14, .invokestatic 781), (17, .ifCond .eq 7), (20, .iconst 0), (21, .goto 4), (24, .iconst 1), (25, .invokevirtual 312), (28, .ifCond .eq 5), (31, .iconst 0), (32, .ireturn), (33, .aload_n 0), (34, .getfield 272), (37, .iload_n 1), (38, .iaload), (39, .istore_n 3), (40, .aload_n 0), (41, .getfield 272), (44, .iload_n 1), (45, .iload_n 2), (46, .iastore), (47, .iload_n 3), (48, .ireturn)]
set_option maxRecDepth 20000 in
theorem tb_e46 : ∀ q ∈ tb_d46, decode prog_14_method_123_code q.1 = .ok (q.2, mm_ln q.2) := by decide +kernel
-- 47 IndexedCompilerModel.run(III)I
def tb_d47_0 : List (Nat × Instr) := [(0, .aload_n 0), (1, .iload_n 2), (2, .i2l), (3, .lconst 0), (4, .lconst 1), (5, .invokestatic 736), (8, .ifCond .eq 15), (11, .iload_n 3), (12, .i2l), (13, .lconst 1), (14, .ldc2_w 853), (17, .invokestatic 736), (20, .ifCond .ne 7), (23, .iconst 1), (24, .goto 16), (27, .aload_n 0), (28, .iload_n 1), (29, .invokevirtual 771), (32, .ifCond .ne 7), (35, .iconst 2), (36, .goto 4), (39, .iconst 0), (40, .invokevirtual 312), (43, .ifCond .eq 5), (46, .iconst 0), (47, .ireturn), (48, .aload_n 0), (49, .iload_n 1), (50, .invokevirtual 855), (53, .ifCond .ne 6), (56, .bipush (-9)), (58, .ireturn), (59, .aload_n 0), (60, .iload_n 1), (61, .invokevirtual 858), (64, .iconst 0), (65, .istore 4), (67, .iload 4), (69, .ifCond .ne 38), (72, .aload_n 0), (73, .getfield 818), (76, .iload_n 3), (77, .if_icmp .ne 10), (80, .bipush (-10))]
set_option maxRecDepth 20000 in
theorem tb_e47_0 : ∀ q ∈ tb_d47_0, decode prog_14_method_136_code q.1 = .ok (q.2, mm_ln q.2) := by decide +kernel
def tb_d47_1 : List (Nat × Instr) := [(82, .istore 4), (84, .goto (-17)), (87, .aload_n 0), (88, .dup), (89, .getfield 818), (92, .iconst 1), (93, .iadd), (94, .putfield 818), (97, .aload_n 0), (98, .iload_n 2), (99, .invokevirtual 861), (102, .istore 4), (104, .goto (-37)), (107, .aload_n 0), (108, .iload 4), (110, .putfield 864), (113, .iload 4), (115, .iconst 1), (116, .if_icmp .ne 67), (119, .aload_n 0), (120, .getfield 109), (123, .aload_n 0), (124, .getfield 51), (127, .iload_n 1), (128, .iaload), (129, .iaload), (130, .iconst 3), (131, .if_icmp .ne 7), (134, .iconst 1), (135, .goto 4), (138, .iconst 0), (139, .istore 5), (141, .aload_n 0), (142, .invokevirtual 830), (145, .istore 6), (147, .aload_n 0), (148, .iload 5), (150, .ifCond .eq 8), (153, .iload 6), (155, .goto 4), (158, .iconst (-1)), (159, .putfield 293), (162, .aload_n 0), (163, .iload 5)]
set_option maxRecDepth 20000 in
theorem tb_e47_1 : ∀ q ∈ tb_d47_1, decode prog_14_method_136_code q.1 = .ok (q.2, mm_ln q.2) := by decide +kernel
def tb_d47_2 : List (Nat × Instr) := [(165, .ifCond .eq 13), (168, .aload_n 0), (169, .getfield 275), (172, .iload 6), (174, .iaload), (175, .goto 5), (178, .iload 6), (180, .putfield 815), (183, .iconst 0), (184, .istore 5), (186, .iload 5), (188, .aload_n 0), (189, .getfield 48), (192, .iload_n 1), (193, .iaload), (194, .if_icmp .ge 70), (197, .iconst 0), (198, .istore 6), (200, .iload 6), (202, .aload_n 0), (203, .getfield 266), (206, .iload 5), (208, .iaload), (209, .if_icmp .ge 49), (212, .aload_n 0), (213, .getfield 263), (216, .iload 5), (218, .baload), (219, .ifCond .eq 39), (222, .aload_n 0), (223, .getfield 269), (226, .bipush 40), (228, .iload 5), (230, .imul), (231, .iload 6), (233, .iadd), (234, .aload_n 0), (235, .getfield 275), (238, .aload_n 0), (239, .getfield 296), (242, .iload 5), (244, .iaload), (245, .iconst 1), (246, .iadd)]
set_option maxRecDepth 20000 in
theorem tb_e47_2 : ∀ q ∈ tb_d47_2, decode prog_14_method_136_code q.1 = .ok (q.2, mm_ln q.2) := by decide +kernel
def tb_d47_3 : List (Nat × Instr) := [(247, .iload 6), (249, .iadd), (250, .iaload), (251, .iastore), (252, .iinc 6 1), (255, .goto (-55)), (258, .iinc 5 1), (261, .goto (-75)), (264, .iload 4), (266, .ireturn)]
set_option maxRecDepth 20000 in
theorem tb_e47_3 : ∀ q ∈ tb_d47_3, decode prog_14_method_136_code q.1 = .ok (q.2, mm_ln q.2) := by decide +kernel
def tb_d47 : List (Nat × Instr) := tb_d47_0 ++ (tb_d47_1 ++ (tb_d47_2 ++ (tb_d47_3)))
theorem tb_e47 : ∀ q ∈ tb_d47, decode prog_14_method_136_code q.1 = .ok (q.2, mm_ln q.2) := List.forall_mem_append.mpr ⟨tb_e47_0, List.forall_mem_append.mpr ⟨tb_e47_1, List.forall_mem_append.mpr ⟨tb_e47_2, tb_e47_3⟩⟩⟩
-- 48 IndexedCompilerModel.told(I)I
def tb_d48 : List (Nat × Instr) := [(0, .aload_n 0), (1, .iload_n 1), (2, .i2l), (3, .lconst 0), (4, .ldc2_w 867), (7, .invokestatic 736), (10, .ifCond .eq 7), (13, .iconst 0), (14, .goto 4), (17, .iconst 1), (18, .invokevirtual 312), (21, .ifCond .eq 5), (24, .iconst 0), (25, .ireturn), (26, .iload_n 1), (68, .aload_n 0), (69, .getfield 864), (72, .ireturn), (73, .aload_n 0), (74, .getfield 815), (77, .ireturn), (78, .aload_n 0), (79, .getfield 818), (82, .ireturn), (83, .aload_n 0), (84, .getfield 821), (87, .ireturn), (88, .aload_n 0), (89, .getfield 824), (92, .ireturn), (93, .aload_n 0), (94, .getfield 812), (97, .ireturn), (98, .aload_n 0), (99, .getfield 827), (102, .ireturn), (103, .aload_n 0), (104, .getfield 803), (107, .ireturn)]
set_option maxRecDepth 20000 in
theorem tb_e48 : ∀ q ∈ tb_d48, decode prog_14_method_137_code q.1 = .ok (q.2, mm_ln q.2) := by decide +kernel
-- 49 IndexedCompilerModel.printed(IZ)I
def tb_d49 : List (Nat × Instr) := [(0, .aload_n 0), (1, .iconst 0), (2, .putfield 302), (5, .iload_n 2), (6, .ifCond .eq 49), (9, .aload_n 0), (10, .getfield 293), (13, .ifCond .lt 40), (16, .iload_n 1), (17, .i2l), (18, .lconst 0), (19, .aload_n 0), (20, .getfield 275), (23, .aload_n 0), (24, .getfield 293), (27, .iaload), (28, .iconst 1), (29, .isub), (30, .i2l), (31, .invokestatic 736), (34, .ifCond .eq 19), (37, .aload_n 0), (38, .getfield 275), (41, .aload_n 0), (42, .getfield 293), (45, .iconst 1), (46, .iadd), (47, .iload_n 1), (48, .iadd), (49, .iaload), (50, .goto 4), (53, .iconst (-1)), (54, .ireturn), (55, .iload_n 1), (56, .i2l), (57, .lconst 0), (58, .aload_n 0), (59, .getfield 812), (62, .bipush 100), (64, .invokestatic 869), (67, .iconst 1), (68, .isub), (69, .i2l), (70, .invokestatic 736), (73, .ifCond .eq 12), (76, .aload_n 0), (77, .getfield 290), (80, .iload_n 1), (81, .iaload), (82, .goto 4), (85, .iconst (-1)), (86, .ireturn)]
set_option maxRecDepth 20000 in
theorem tb_e49 : ∀ q ∈ tb_d49, decode prog_14_method_138_code q.1 = .ok (q.2, mm_ln q.2) := by decide +kernel
-- 50 IndexedCompilerModel.isDesk(IIII)Z
def tb_d50 : List (Nat × Instr) := [(0, .iload_n 0), (1, .i2l), (2, .ldc2_w 871), (5, .ldc2_w 873), (8, .invokestatic 736), (11, .ifCond .eq 49), (14, .iload_n 1), (15, .i2l), (16, .ldc2_w 871), (19, .ldc2_w 873), (22, .invokestatic 736), (25, .ifCond .eq 35), (28, .iload_n 2), (29, .i2l), (30, .ldc2_w 871), (33, .ldc2_w 873), (36, .invokestatic 736), (39, .ifCond .eq 21), (42, .iload_n 3), (43, .i2l), (44, .ldc2_w 511), (47, .ldc2_w 509), (50, .invokestatic 736), (53, .ifCond .eq 7), (56, .iconst 1), (57, .goto 4), (60, .iconst 0), (61, .ireturn)]
set_option maxRecDepth 20000 in
theorem tb_e50 : ∀ q ∈ tb_d50, decode prog_14_method_139_code q.1 = .ok (q.2, mm_ln q.2) := by decide +kernel
-- 51 IndexedCompilerModel.putDesk([JIIIII)V
def tb_d51 : List (Nat × Instr) := [(0, .iconst 0), (1, .istore 6), (3, .iload 6), (5, .bipush 25), (7, .if_icmp .ge 16), (10, .aload_n 0), (11, .iload_n 1), (12, .iload 6), (14, .iadd), (15, .lconst 0), (16, .lastore), (17, .iinc 6 1), (20, .goto (-17)), (23, .aload_n 0), (24, .iload_n 1), (25, .iload_n 2), (26, .i2l), (27, .lastore), (28, .aload_n 0), (29, .iload_n 1), (30, .iconst 1), (31, .iadd), (32, .iload_n 3), (33, .i2l), (34, .lastore), (35, .aload_n 0), (36, .iload_n 1), (37, .iconst 2), (38, .iadd), (39, .iload 4), (41, .i2l), (42, .lastore), (43, .aload_n 0), (44, .iload_n 1), (45, .bipush 24), (47, .iadd), (48, .iload 5), (50, .i2l), (51, .lastore), (52, .return_)]
set_option maxRecDepth 20000 in
theorem tb_e51 : ∀ q ∈ tb_d51, decode prog_14_method_140_code q.1 = .ok (q.2, mm_ln q.2) := by decide +kernel
-- 52 IndexedCompilerModel.fact(IIII)I
def tb_d52 : List (Nat × Instr) := [(0, .aload_n 0), (1, .iload_n 1), (2, .iload_n 2), (3, .iload_n 3), (4, .iload 4), (6, .invokestatic 875), (9, .ifCond .ne 7), (12, .iconst 1), (13, .goto 17), (16, .aload_n 0), (17, .getfield 879), (20, .bipush 40), (22, .if_icmp .ne 7), (25, .iconst 2), (26, .goto 4), (29, .iconst 0), (30, .invokevirtual 312), (33, .ifCond .eq 5), (36, .iconst 0), (37, .ireturn), (38, .aload_n 0), (39, .getfield 299), (42, .bipush 25), (44, .aload_n 0), (45, .getfield 879), (48, .imul), (49, .iload_n 1), (50, .iload_n 2), (51, .iload_n 3), (52, .iload 4), (54, .invokestatic 882), (57, .aload_n 0), (58, .dup), (59, .getfield 879), (62, .iconst 1), (63, .iadd), (64, .putfield 879), (67, .aload_n 0), (68, .getfield 879), (71, .ireturn)]
set_option maxRecDepth 20000 in
theorem tb_e52 : ∀ q ∈ tb_d52, decode prog_14_method_141_code q.1 = .ok (q.2, mm_ln q.2) := by decide +kernel
-- 53 IndexedCompilerModel.ask(IIII)Z
def tb_d53 : List (Nat × Instr) := [(0, .aload_n 0), (1, .iload_n 1), (2, .iload_n 2), (3, .iload_n 3), (4, .iload 4), (6, .invokestatic 875), (9, .ifCond .eq 7), (12, .iconst 0), (13, .goto 4), (16, .iconst 1), (17, .invokevirtual 312), (20, .ifCond .eq 5), (23, .iconst 0), (24, .ireturn), (25, .aload_n 0), (26, .getfield 203), (29, .iconst 0), (30, .iload_n 1), (31, .iload_n 2), (32, .iload_n 3), (33, .iload 4), (35, .invokestatic 882), (38, .aload_n 0), (39, .aload_n 0), (40, .getfield 299), (43, .aload_n 0), (44, .getfield 879), (47, .invokevirtual 579), (50, .ireturn)]
set_option maxRecDepth 20000 in
theorem tb_e53 : ∀ q ∈ tb_d53, decode prog_14_method_142_code q.1 = .ok (q.2, mm_ln q.2) := by decide +kernel
-- 54 IndexedCompilerModel.forget()I
def tb_d54 : List (Nat × Instr) := [(0, .aload_n 0), (1, .iconst 0), (2, .putfield 302), (5, .aload_n 0), (6, .getfield 879), (9, .istore_n 1), (10, .aload_n 0), (11, .iconst 0), (12, .putfield 879), (15, .iload_n 1), (16, .ireturn)]
set_option maxRecDepth 20000 in
theorem tb_e54 : ∀ q ∈ tb_d54, decode prog_14_method_143_code q.1 = .ok (q.2, mm_ln q.2) := by decide +kernel
-- 55 IndexedCompilerModel.gcd(JJ)J
def tb_d55 : List (Nat × Instr) := [(0, .lload_n 0), (1, .lconst 0), (2, .lcmp), (3, .ifCond .ge 8), (6, .lload_n 0), (7, .lneg), (8, .goto 4), (11, .lload_n 0), (12, .lstore 4), (14, .lload_n 2), (15, .lconst 0), (16, .lcmp), (17, .ifCond .ge 8), (20, .lload_n 2), (21, .lneg), (22, .goto 4), (25, .lload_n 2), (26, .lstore 6), (28, .lload 6), (30, .lconst 0), (31, .lcmp), (32, .ifCond .eq 21), (35, .lload 4), (37, .lload 6), (39, .lrem), (40, .lstore 8), (42, .lload 6), (44, .lstore 4), (46, .lload 8), (48, .lstore 6), (50, .goto (-22)), (53, .lload 4), (55, .lreturn)]
set_option maxRecDepth 20000 in
theorem tb_e55 : ∀ q ∈ tb_d55, decode prog_14_method_68_code q.1 = .ok (q.2, mm_ln q.2) := by decide +kernel
-- 56 IndexedCompilerModel.keep()Z
def tb_d56_0 : List (Nat × Instr) := [(0, .lconst 0), (1, .lstore_n 1), (2, .iconst 0), (3, .istore_n 3), (4, .iload_n 3), (5, .bipush 24), (7, .if_icmp .ge 20), (10, .lload_n 1), (11, .aload_n 0), (12, .getfield 218), (15, .iload_n 3), (16, .laload), (17, .invokestatic 582), (20, .lstore_n 1), (21, .iinc 3 1), (24, .goto (-20)), (27, .lload_n 1), (28, .lconst 0), (29, .lcmp), (30, .ifCond .le 49), (33, .iconst 0), (34, .istore_n 3), (35, .iload_n 3), (36, .bipush 24), (38, .if_icmp .ge 23), (41, .aload_n 0), (42, .getfield 218), (45, .iload_n 3), (46, .aload_n 0), (47, .getfield 218), (50, .iload_n 3), (51, .laload), (52, .lload_n 1), (53, .ldiv), (54, .lastore), (55, .iinc 3 1)]
set_option maxRecDepth 20000 in
theorem tb_e56_0 : ∀ q ∈ tb_d56_0, decode prog_14_method_69_code q.1 = .ok (q.2, mm_ln q.2) := by decide +kernel
def tb_d56_1 : List (Nat × Instr) := [(58, .goto (-23)), (61, .aload_n 0), (62, .getfield 218), (65, .bipush 24), (67, .aload_n 0), (68, .getfield 218), (71, .bipush 24), (73, .laload), (74, .lload_n 1), (75, .invokestatic 586), (78, .lastore), (79, .iconst 0), (80, .istore_n 3), (81, .iload_n 3), (82, .bipush 25), (84, .if_icmp .ge 37), (87, .aload_n 0), (88, .getfield 218), (91, .iload_n 3), (92, .laload), (93, .ldc2_w 591), (96, .lcmp), (97, .ifCond .gt 16), (100, .aload_n 0), (101, .getfield 218), (104, .iload_n 3), (105, .laload), (106, .ldc2_w 593), (109, .lcmp), (110, .ifCond .ge 5), (113, .iconst 0), (114, .ireturn), (115, .iinc 3 1), (118, .goto (-37)), (121, .lload_n 1), (122, .lconst 0)]
set_option maxRecDepth 20000 in
theorem tb_e56_1 : ∀ q ∈ tb_d56_1, decode prog_14_method_69_code q.1 = .ok (q.2, mm_ln q.2) := by decide +kernel
def tb_d56_2 : List (Nat × Instr) := [(123, .lcmp), (124, .ifCond .ne 33), (127, .aload_n 0), (128, .aload_n 0), (129, .getfield 595), (132, .ifCond .ne 15), (135, .aload_n 0), (136, .getfield 218), (139, .bipush 24), (141, .laload), (142, .lconst 0), (143, .lcmp), (144, .ifCond .ge 7), (147, .iconst 1), (148, .goto 4), (151, .iconst 0), (152, .putfield 595), (155, .iconst 1), (156, .ireturn), (157, .iconst 0), (158, .istore_n 3), (159, .iload_n 3), (160, .aload_n 0), (161, .getfield 598), (164, .if_icmp .ge 104), (167, .iconst 1), (168, .istore 4), (170, .iconst 0), (171, .istore 5), (173, .iload 5), (175, .bipush 24), (177, .if_icmp .ge 44), (180, .iload 4), (182, .ifCond .eq 39), (185, .aload_n 0), (186, .getfield 215)]
set_option maxRecDepth 20000 in
theorem tb_e56_2 : ∀ q ∈ tb_d56_2, decode prog_14_method_69_code q.1 = .ok (q.2, mm_ln q.2) := by decide +kernel
def tb_d56_3 : List (Nat × Instr) := [(189, .bipush 25), (191, .iload_n 3), (192, .imul), (193, .iload 5), (195, .iadd), (196, .laload), (197, .aload_n 0), (198, .getfield 218), (201, .iload 5), (203, .laload), (204, .lcmp), (205, .ifCond .ne 7), (208, .iconst 1), (209, .goto 4), (212, .iconst 0), (213, .istore 4), (215, .iinc 5 1), (218, .goto (-45)), (221, .iload 4), (223, .ifCond .eq 39), (226, .aload_n 0), (227, .getfield 215), (230, .bipush 25), (232, .iload_n 3), (233, .imul), (234, .bipush 24), (236, .iadd), (237, .aload_n 0), (238, .getfield 215), (241, .bipush 25), (243, .iload_n 3), (244, .imul), (245, .bipush 24), (247, .iadd), (248, .laload), (249, .aload_n 0)]
set_option maxRecDepth 20000 in
theorem tb_e56_3 : ∀ q ∈ tb_d56_3, decode prog_14_method_69_code q.1 = .ok (q.2, mm_ln q.2) := by decide +kernel
def tb_d56_4 : List (Nat × Instr) := [(250, .getfield 218), (253, .bipush 24), (255, .laload), (256, .invokestatic 601), (259, .lastore), (260, .iconst 1), (261, .ireturn), (262, .iinc 3 1), (265, .goto (-106)), (268, .aload_n 0), (269, .getfield 598), (272, .bipush 80), (274, .if_icmp .ne 5), (277, .iconst 0), (278, .ireturn), (279, .iconst 0), (280, .istore_n 3), (281, .iload_n 3), (282, .bipush 25), (284, .if_icmp .ge 29), (287, .aload_n 0), (288, .getfield 215), (291, .bipush 25), (293, .aload_n 0), (294, .getfield 598), (297, .imul), (298, .iload_n 3), (299, .iadd), (300, .aload_n 0), (301, .getfield 218), (304, .iload_n 3), (305, .laload), (306, .lastore), (307, .iinc 3 1), (310, .goto (-29)), (313, .aload_n 0)]
set_option maxRecDepth 20000 in
theorem tb_e56_4 : ∀ q ∈ tb_d56_4, decode prog_14_method_69_code q.1 = .ok (q.2, mm_ln q.2) := by decide +kernel
def tb_d56_5 : List (Nat × Instr) := [(314, .dup), (315, .getfield 598), (318, .iconst 1), (319, .iadd), (320, .putfield 598), (323, .iconst 1), (324, .ireturn)]
set_option maxRecDepth 20000 in
theorem tb_e56_5 : ∀ q ∈ tb_d56_5, decode prog_14_method_69_code q.1 = .ok (q.2, mm_ln q.2) := by decide +kernel
def tb_d56 : List (Nat × Instr) := tb_d56_0 ++ (tb_d56_1 ++ (tb_d56_2 ++ (tb_d56_3 ++ (tb_d56_4 ++ (tb_d56_5)))))
theorem tb_e56 : ∀ q ∈ tb_d56, decode prog_14_method_69_code q.1 = .ok (q.2, mm_ln q.2) := List.forall_mem_append.mpr ⟨tb_e56_0, List.forall_mem_append.mpr ⟨tb_e56_1, List.forall_mem_append.mpr ⟨tb_e56_2, List.forall_mem_append.mpr ⟨tb_e56_3, List.forall_mem_append.mpr ⟨tb_e56_4, tb_e56_5⟩⟩⟩⟩⟩
-- 57 IndexedCompilerModel.without(I)Z
def tb_d57 : List (Nat × Instr) := [(0, .iconst 0), (1, .istore_n 2), (2, .iload_n 2), (3, .aload_n 0), (4, .getfield 604), (7, .if_icmp .ge 180), (10, .aload_n 0), (11, .getfield 212), (14, .bipush 25), (16, .iload_n 2), (17, .imul), (18, .iload_n 1), (19, .iadd), (20, .laload), (21, .lstore_n 3), (22, .lload_n 3), (23, .lconst 0), (24, .lcmp), (25, .ifCond .ne 47), (28, .iconst 0), (29, .istore 5), (31, .iload 5), (33, .bipush 25), (35, .if_icmp .ge 28), (38, .aload_n 0), (39, .getfield 218), (42, .iload 5), (44, .aload_n 0), (45, .getfield 212), (48, .bipush 25), (50, .iload_n 2), (51, .imul), (52, .iload 5), (54, .iadd), (55, .laload), (56, .lastore), (57, .iinc 5 1), (60, .goto (-29)), (63, .aload_n 0), (64, .invokevirtual 607), (67, .ifCond .ne 5), (70, .iconst 0), (71, .ireturn), (72, .iconst 0), (73, .istore 5), (75, .iload 5), (77, .aload_n 0), (78, .getfield 604), (81, .if_icmp .ge 100), (84, .lload_n 3), (85, .lconst 0), (86, .lcmp), (87, .ifCond .le 94), (90, .aload_n 0), (91, .getfield 212), (94, .bipush 25), (96, .iload 5), (98, .imul), (99, .iload_n 1), (100, .iadd), (101, .laload), (102, .lneg), (103, .lstore 6), (105, .lload 6), (107, .lconst 0), (108, .lcmp), (109, .ifCond .le 66), (112, .iconst 0), (113, .istore 8), (115, .iload 8), (117, .bipush 25), (119, .if_icmp .ge 47), (122, .aload_n 0), (123, .getfield 218), (126, .iload 8), (128, .lload 6), (130, .aload_n 0), (131, .getfield 212), (134, .bipush 25), (136, .iload_n 2), (137, .imul), (138, .iload 8), (140, .iadd), (141, .laload), (142, .lmul), (143, .lload_n 3), (144, .aload_n 0), (145, .getfield 212), (148, .bipush 25), (150, .iload 5), (152, .imul), (153, .iload 8), (155, .iadd), (156, .laload), (157, .lmul), (158, .ladd), (159, .lastore), (160, .iinc 8 1), (163, .goto (-48)), (166, .aload_n 0), (167, .invokevirtual 607), (170, .ifCond .ne 5), (173, .iconst 0), (174, .ireturn), (175, .iinc 5 1), (178, .goto (-103)), (181, .iinc 2 1), (184, .goto (-182)), (187, .iconst 1), (188, .ireturn)]
set_option maxRecDepth 20000 in
theorem tb_e57 : ∀ q ∈ tb_d57, decode prog_14_method_70_code q.1 = .ok (q.2, mm_ln q.2) := by decide +kernel
-- 58 IndexedCompilerModel.takeFresh()V
def tb_d58 : List (Nat × Instr) := [(0, .aload_n 0), (1, .aload_n 0), (2, .getfield 598), (5, .putfield 604), (8, .iconst 0), (9, .istore_n 1), (10, .iload_n 1), (11, .bipush 25), (13, .aload_n 0), (14, .getfield 598), (17, .imul), (18, .if_icmp .ge 21), (21, .aload_n 0), (22, .getfield 212), (25, .iload_n 1), (26, .aload_n 0), (27, .getfield 215), (30, .iload_n 1), (31, .laload), (32, .lastore), (33, .iinc 1 1), (36, .goto (-26)), (39, .aload_n 0), (40, .iconst 0), (41, .putfield 598), (44, .return_)]
set_option maxRecDepth 20000 in
theorem tb_e58 : ∀ q ∈ tb_d58, decode prog_14_method_71_code q.1 = .ok (q.2, mm_ln q.2) := by decide +kernel
-- 59 IndexedCompilerModel.isProved([JI)Z
def tb_d59 : List (Nat × Instr) := [(0, .aload_n 0), (1, .iconst 0), (2, .putfield 598), (5, .aload_n 0), (6, .iconst 0), (7, .putfield 595), (10, .iconst 0), (11, .istore_n 3), (12, .iload_n 3), (13, .iload_n 2), (14, .if_icmp .ge 50), (17, .iconst 0), (18, .istore 4), (20, .iload 4), (22, .bipush 25), (24, .if_icmp .ge 25), (27, .aload_n 0), (28, .getfield 218), (31, .iload 4), (33, .aload_n 1), (34, .bipush 25), (36, .iload_n 3), (37, .imul), (38, .iload 4), (40, .iadd), (41, .laload), (42, .lastore), (43, .iinc 4 1), (46, .goto (-26)), (49, .aload_n 0), (50, .invokevirtual 607), (53, .ifCond .ne 5), (56, .iconst 0), (57, .ireturn), (58, .iinc 3 1), (61, .goto (-49)), (64, .iconst 0), (65, .istore_n 3), (66, .iload_n 3), (67, .bipush 25), (69, .if_icmp .ge 22), (72, .aload_n 0), (73, .getfield 218), (76, .iload_n 3), (77, .aload_n 0), (78, .getfield 203), (81, .iload_n 3), (82, .laload), (83, .lneg), (84, .lastore), (85, .iinc 3 1), (88, .goto (-22)), (91, .aload_n 0), (92, .getfield 218), (95, .bipush 24), (97, .aload_n 0), (98, .getfield 218), (101, .bipush 24), (103, .laload), (104, .lconst 1), (105, .lsub), (106, .lastore), (107, .aload_n 0), (108, .invokevirtual 607), (111, .ifCond .ne 5), (114, .iconst 0), (115, .ireturn), (116, .bipush 23), (118, .istore_n 3), (119, .iload_n 3), (120, .ifCond .lt 30), (123, .aload_n 0), (124, .getfield 595), (127, .ifCond .ne 23), (130, .aload_n 0), (131, .invokevirtual 610), (134, .aload_n 0), (135, .iload_n 3), (136, .invokevirtual 613), (139, .ifCond .ne 5), (142, .iconst 0), (143, .ireturn), (144, .iinc 3 (-1)), (147, .goto (-28)), (150, .aload_n 0), (151, .getfield 595), (154, .ireturn)]
set_option maxRecDepth 20000 in
theorem tb_e59 : ∀ q ∈ tb_d59, decode prog_14_method_72_code q.1 = .ok (q.2, mm_ln q.2) := by decide +kernel
-- 60 IndexedCompiler.<init>()V
def tb_d60 : List (Nat × Instr) := [(0, .aload_n 0), (1, .invokespecial 1), (4, .aload_n 0), (5, .new 7), (8, .dup), (9, .invokespecial 9), (12, .putfield 10), (15, .aload_n 0), (16, .new 16), (19, .dup), (20, .invokespecial 18), (23, .putfield 19), (26, .aload_n 0), (27, .bipush 9), (29, .anewarray 23), (32, .putfield 25), (35, .aload_n 0), (36, .new 29), (39, .dup), (40, .invokespecial 31), (43, .putfield 32), (46, .aload_n 0), (47, .new 36), (50, .dup), (51, .invokespecial 38), (54, .putfield 39), (57, .aload_n 0), (58, .new 43), (61, .dup), (62, .invokespecial 45), (65, .putfield 46), (68, .aload_n 0), (69, .new 50), (72, .dup), (73, .invokespecial 52), (76, .putfield 53), (79, .aload_n 0), (80, .new 57), (83, .dup), (84, .bipush 40), (86, .iconst 0), (87, .invokespecial 59), (90, .putfield 62), (93, .aload_n 0), (94, .new 66), (97, .dup), (98, .invokespecial 68), (101, .putfield 69), (104, .aload_n 0), (105, .iconst 0), (106, .putfield 73), (109, .aload_n 0), (110, .iconst (-1)), (111, .putfield 77), (114, .aload_n 0), (115, .iconst 0), (116, .putfield 80), (119, .return_)]
set_option maxRecDepth 20000 in
theorem tb_e60 : ∀ q ∈ tb_d60, decode prog_1_method_1_code q.1 = .ok (q.2, mm_ln q.2) := by decide +kernel
-- 61 IndexedCompiler.type(IIIII)I
def tb_d61 : List (Nat × Instr) := [(0, .iload_n 1), (1, .invokestatic 84), (4, .iload_n 2), (5, .invokestatic 84), (8, .iadd), (9, .iload_n 3), (10, .invokestatic 84), (13, .iadd), (14, .iload 4), (16, .invokestatic 84), (19, .iadd), (20, .iload 5), (22, .invokestatic 84), (25, .iadd), (26, .istore 6), (28, .aload_n 0), (29, .getfield 10), (32, .getfield 88), (35, .iload 6), (37, .iadd), (38, .sipush 480), (41, .if_icmp .le 13), (54, .aload_n 0), (55, .getfield 10), (58, .iload_n 1), (59, .invokevirtual 98), (62, .aload_n 0), (63, .getfield 10), (66, .iload_n 2), (67, .invokevirtual 98), (70, .aload_n 0), (71, .getfield 10), (74, .iload_n 3), (75, .invokevirtual 98), (78, .aload_n 0), (79, .getfield 10), (82, .iload 4), (84, .invokevirtual 98), (87, .aload_n 0), (88, .getfield 10), (91, .iload 5), (93, .invokevirtual 98), (96, .aload_n 0), (97, .getfield 10), (100, .getfield 88), (103, .ireturn)]
set_option maxRecDepth 20000 in
theorem tb_e61 : ∀ q ∈ tb_d61, decode prog_1_method_2_code q.1 = .ok (q.2, mm_ln q.2) := by decide +kernel
-- 62 IndexedCompiler.erase()I
def tb_d62 : List (Nat × Instr) := [(0, .aload_n 0), (1, .getfield 10), (4, .getfield 88), (7, .istore_n 1), (8, .aload_n 0), (9, .getfield 10), (12, .iconst 0), (13, .putfield 88), (16, .iload_n 1), (17, .ireturn)]
set_option maxRecDepth 20000 in
theorem tb_e62 : ∀ q ∈ tb_d62, decode prog_1_method_3_code q.1 = .ok (q.2, mm_ln q.2) := by decide +kernel
-- 63 IndexedCompiler.define()I
def tb_d63 : List (Nat × Instr) := [(0, .aload_n 0), (1, .aload_n 0), (2, .getfield 73), (5, .invokevirtual 102), (8, .astore_n 1), (9, .aload_n 0), (10, .getfield 19), (13, .aload_n 0), (14, .getfield 10), (17, .aload_n 1), (18, .invokevirtual 106), (21, .ifCond .ne 17), (24, .aload_n 0), (25, .aload_n 0), (26, .getfield 19), (29, .getfield 110), (32, .putfield 77), (35, .bipush (-2)), (37, .ireturn), (38, .aload_n 0), (39, .aload_n 1), (40, .invokevirtual 113), (43, .istore_n 2), (44, .iload_n 2), (45, .ifCond .lt 11), (48, .aload_n 0), (49, .iload_n 2), (50, .putfield 77), (53, .bipush (-3)), (55, .ireturn), (56, .aload_n 0), (57, .iconst (-1)), (58, .putfield 77), (61, .aload_n 0), (62, .getfield 73), (65, .bipush 8), (67, .if_icmp .lt 6), (70, .bipush (-4)), (72, .ireturn), (73, .aload_n 0), (74, .dup), (75, .getfield 73), (78, .iconst 1), (79, .iadd), (80, .putfield 73), (83, .aload_n 0), (84, .iconst 0), (85, .putfield 80), (88, .aload_n 0), (89, .getfield 73), (92, .iconst 1), (93, .isub), (94, .ireturn)]
set_option maxRecDepth 20000 in
theorem tb_e63 : ∀ q ∈ tb_d63, decode prog_1_method_4_code q.1 = .ok (q.2, mm_ln q.2) := by decide +kernel
-- 64 IndexedCompiler.clear()I
def tb_d64 : List (Nat × Instr) := [(0, .aload_n 0), (1, .getfield 73), (4, .istore_n 1), (5, .aload_n 0), (6, .iconst 0), (7, .putfield 73), (10, .aload_n 0), (11, .iconst 0), (12, .putfield 80), (15, .iload_n 1), (16, .ireturn)]
set_option maxRecDepth 20000 in
theorem tb_e64 : ∀ q ∈ tb_d64, decode prog_1_method_5_code q.1 = .ok (q.2, mm_ln q.2) := by decide +kernel
-- 65 IndexedCompiler.check()I
def tb_d65 : List (Nat × Instr) := [(0, .aload_n 0), (1, .getfield 32), (4, .aload_n 0), (5, .getfield 25), (8, .aload_n 0), (9, .getfield 73), (12, .invokevirtual 117), (15, .istore_n 1), (16, .aload_n 0), (17, .iconst 1), (18, .putfield 80), (21, .aload_n 0), (22, .aload_n 0), (23, .getfield 32), (26, .invokevirtual 121), (29, .putfield 77), (32, .iload_n 1), (33, .iconst 1), (34, .if_icmp .ne 18), (37, .aload_n 0), (38, .getfield 39), (41, .aload_n 0), (42, .getfield 25), (45, .aload_n 0), (46, .getfield 73), (49, .invokevirtual 125), (52, .iload_n 1), (53, .ireturn)]
set_option maxRecDepth 20000 in
theorem tb_e65 : ∀ q ∈ tb_d65, decode prog_1_method_6_code q.1 = .ok (q.2, mm_ln q.2) := by decide +kernel
-- 66 IndexedCompiler.place()I
def tb_d66 : List (Nat × Instr) := [(0, .aload_n 0), (1, .getfield 77), (4, .ireturn)]
set_option maxRecDepth 20000 in
theorem tb_e66 : ∀ q ∈ tb_d66, decode prog_1_method_7_code q.1 = .ok (q.2, mm_ln q.2) := by decide +kernel
-- 67 IndexedCompiler.count(I)I
def tb_d67 : List (Nat × Instr) := [(0, .iload_n 1), (1, .ifCond .lt 8), (4, .iload_n 1), (5, .iconst 5), (6, .if_icmp .le 13), (19, .iload_n 1), (20, .ifCond .ne 8), (23, .aload_n 0), (24, .getfield 73), (27, .ireturn), (28, .aload_n 0), (29, .getfield 80), (32, .ifCond .ne 14), (35, .iload_n 1), (36, .iconst 5), (37, .if_icmp .ne 7), (40, .iconst (-1)), (41, .goto 4), (44, .iconst 0), (45, .ireturn), (46, .aload_n 0), (47, .getfield 32), (50, .iload_n 1), (51, .invokevirtual 134), (54, .ireturn)]
set_option maxRecDepth 20000 in
theorem tb_e67 : ∀ q ∈ tb_d67, decode prog_1_method_8_code q.1 = .ok (q.2, mm_ln q.2) := by decide +kernel
-- 68 IndexedCompiler.goal(II)I
def tb_d68 : List (Nat × Instr) := [(0, .iload_n 2), (1, .ifCond .lt 8), (4, .iload_n 2), (5, .iconst 5), (6, .if_icmp .le 13), (19, .aload_n 0), (20, .getfield 80), (23, .ifCond .eq 19), (26, .iload_n 1), (27, .ifCond .lt 15), (30, .iload_n 1), (31, .aload_n 0), (32, .getfield 32), (35, .iconst 1), (36, .invokevirtual 134), (39, .if_icmp .lt 13), (52, .aload_n 0), (53, .getfield 32), (56, .iload_n 1), (57, .iload_n 2), (58, .invokevirtual 139), (61, .ireturn)]
set_option maxRecDepth 20000 in
theorem tb_e68 : ∀ q ∈ tb_d68, decode prog_1_method_9_code q.1 = .ok (q.2, mm_ln q.2) := by decide +kernel
-- 69 IndexedCompiler.code(III)I
def tb_d69 : List (Nat × Instr) := [(0, .iload_n 2), (1, .ifCond .lt 12), (4, .iload_n 2), (5, .iconst 1), (6, .if_icmp .gt 7), (9, .iload_n 3), (10, .ifCond .ge 13), (23, .aload_n 0), (24, .iload_n 1), (25, .invokevirtual 145), (28, .ifCond .ne 13), (41, .aload_n 0), (42, .getfield 39), (45, .iload_n 1), (46, .iload_n 2), (47, .iload_n 3), (48, .invokevirtual 151), (51, .ireturn)]
set_option maxRecDepth 20000 in
theorem tb_e69 : ∀ q ∈ tb_d69, decode prog_1_method_10_code q.1 = .ok (q.2, mm_ln q.2) := by decide +kernel
-- 70 IndexedCompiler.set(II)V
def tb_d70 : List (Nat × Instr) := [(0, .iload_n 1), (1, .invokestatic 155), (4, .ifCond .eq 10), (7, .iload_n 2), (8, .invokestatic 158), (11, .ifCond .ne 13), (24, .aload_n 0), (25, .getfield 46), (28, .iload_n 1), (29, .iload_n 2), (30, .invokevirtual 163), (33, .return_)]
set_option maxRecDepth 20000 in
theorem tb_e70 : ∀ q ∈ tb_d70, decode prog_1_method_11_code q.1 = .ok (q.2, mm_ln q.2) := by decide +kernel
-- 71 IndexedCompiler.make(II)V
def tb_d71 : List (Nat × Instr) := [(0, .iload_n 1), (1, .invokestatic 155), (4, .ifCond .eq 13), (7, .iload_n 2), (8, .ifCond .lt 9), (11, .iload_n 2), (12, .bipush 40), (14, .if_icmp .le 13), (27, .aload_n 0), (28, .getfield 46), (31, .iload_n 1), (32, .iload_n 2), (33, .invokevirtual 168), (36, .return_)]
set_option maxRecDepth 20000 in
theorem tb_e71 : ∀ q ∈ tb_d71, decode prog_1_method_12_code q.1 = .ok (q.2, mm_ln q.2) := by decide +kernel
-- 72 IndexedCompiler.put(III)V
def tb_d72 : List (Nat × Instr) := [(0, .iload_n 1), (1, .invokestatic 155), (4, .ifCond .eq 10), (7, .iload_n 3), (8, .invokestatic 158), (11, .ifCond .ne 13), (24, .aload_n 0), (25, .getfield 46), (28, .iload_n 1), (29, .iload_n 2), (30, .invokevirtual 171), (33, .ifCond .ne 13), (46, .aload_n 0), (47, .getfield 46), (50, .iload_n 1), (51, .iload_n 2), (52, .iload_n 3), (53, .invokevirtual 177), (56, .return_)]
set_option maxRecDepth 20000 in
theorem tb_e72 : ∀ q ∈ tb_d72, decode prog_1_method_13_code q.1 = .ok (q.2, mm_ln q.2) := by decide +kernel
-- 73 IndexedCompiler.get(II)I
def tb_d73 : List (Nat × Instr) := [(0, .iload_n 1), (1, .invokestatic 155), (4, .ifCond .ne 13), (17, .iload_n 2), (18, .iconst (-1)), (19, .if_icmp .ne 12), (22, .aload_n 0), (23, .getfield 46), (26, .iload_n 1), (27, .invokevirtual 183), (30, .ireturn), (31, .aload_n 0), (32, .getfield 46), (35, .iload_n 1), (36, .iload_n 2), (37, .invokevirtual 171), (40, .ifCond .ne 13), (53, .aload_n 0), (54, .getfield 46), (57, .iload_n 1), (58, .iload_n 2), (59, .invokevirtual 186), (62, .ireturn)]
set_option maxRecDepth 20000 in
theorem tb_e73 : ∀ q ∈ tb_d73, decode prog_1_method_14_code q.1 = .ok (q.2, mm_ln q.2) := by decide +kernel
-- 74 IndexedCompiler.value(II)I
def tb_d74 : List (Nat × Instr) := [(0, .iload_n 1), (1, .ifCond .lt 15), (4, .iload_n 1), (5, .iconst 4), (6, .if_icmp .ge 10), (9, .iload_n 2), (10, .invokestatic 158), (13, .ifCond .ne 13), (26, .aload_n 0), (27, .getfield 46), (30, .iload_n 1), (31, .iload_n 2), (32, .invokevirtual 191), (35, .ireturn)]
set_option maxRecDepth 20000 in
theorem tb_e74 : ∀ q ∈ tb_d74, decode prog_1_method_15_code q.1 = .ok (q.2, mm_ln q.2) := by decide +kernel
-- 75 IndexedCompiler.run(III)I
def tb_d75 : List (Nat × Instr) := [(0, .iload_n 2), (1, .ifCond .lt 20), (4, .iload_n 2), (5, .iconst 1), (6, .if_icmp .gt 15), (9, .iload_n 3), (10, .iconst 1), (11, .if_icmp .lt 10), (14, .iload_n 3), (15, .sipush 20000), (18, .if_icmp .le 13), (31, .aload_n 0), (32, .iload_n 1), (33, .invokevirtual 145), (36, .ifCond .ne 13), (49, .aload_n 0), (50, .getfield 46), (53, .aload_n 0), (54, .getfield 25), (57, .iload_n 1), (58, .aaload), (59, .invokevirtual 196), (62, .ifCond .ne 6), (65, .bipush (-9)), (67, .ireturn), (68, .aload_n 0), (69, .getfield 53), (72, .aload_n 0), (73, .getfield 39), (76, .aload_n 0), (77, .getfield 46), (80, .iload_n 1), (81, .iload_n 2), (82, .iload_n 3), (83, .invokevirtual 200), (86, .ireturn)]
set_option maxRecDepth 20000 in
theorem tb_e75 : ∀ q ∈ tb_d75, decode prog_1_method_16_code q.1 = .ok (q.2, mm_ln q.2) := by decide +kernel
-- 76 IndexedCompiler.told(I)I
def tb_d76 : List (Nat × Instr) := [(0, .iload_n 1), (1, .ifCond .lt 9), (4, .iload_n 1), (5, .bipush 7), (7, .if_icmp .le 13), (20, .aload_n 0), (21, .getfield 53), (24, .iload_n 1), (25, .invokevirtual 206), (28, .ireturn)]
set_option maxRecDepth 20000 in
theorem tb_e76 : ∀ q ∈ tb_d76, decode prog_1_method_17_code q.1 = .ok (q.2, mm_ln q.2) := by decide +kernel
-- 77 IndexedCompiler.printed(IZ)I
def tb_d77 : List (Nat × Instr) := [(0, .iload_n 2), (1, .ifCond .eq 14), (4, .aload_n 0), (5, .getfield 53), (8, .iload_n 1), (9, .invokevirtual 209), (12, .goto 11), (15, .aload_n 0), (16, .getfield 53), (19, .iload_n 1), (20, .invokevirtual 212), (23, .ireturn)]
set_option maxRecDepth 20000 in
theorem tb_e77 : ∀ q ∈ tb_d77, decode prog_1_method_18_code q.1 = .ok (q.2, mm_ln q.2) := by decide +kernel
-- 78 IndexedCompiler.fact(IIII)I
def tb_d78 : List (Nat × Instr) := [(0, .iload_n 1), (1, .iload_n 2), (2, .iload_n 3), (3, .iload 4), (5, .invokestatic 215), (8, .ifCond .ne 13), (21, .aload_n 0), (22, .getfield 62), (25, .getfield 221), (28, .bipush 40), (30, .if_icmp .lt 13), (43, .aload_n 0), (44, .getfield 69), (47, .iload_n 1), (48, .iload_n 2), (49, .iload_n 3), (50, .iload 4), (52, .invokevirtual 226), (55, .aload_n 0), (56, .getfield 62), (59, .aload_n 0), (60, .getfield 69), (63, .iconst 0), (64, .invokevirtual 230), (67, .aload_n 0), (68, .getfield 62), (71, .getfield 221), (74, .ireturn)]
set_option maxRecDepth 20000 in
theorem tb_e78 : ∀ q ∈ tb_d78, decode prog_1_method_19_code q.1 = .ok (q.2, mm_ln q.2) := by decide +kernel
-- 79 IndexedCompiler.ask(IIII)Z
def tb_d79 : List (Nat × Instr) := [(0, .iload_n 1), (1, .iload_n 2), (2, .iload_n 3), (3, .iload 4), (5, .invokestatic 215), (8, .ifCond .ne 13), (21, .aload_n 0), (22, .getfield 69), (25, .iload_n 1), (26, .iload_n 2), (27, .iload_n 3), (28, .iload 4), (30, .invokevirtual 226), (33, .aload_n 0), (34, .getfield 62), (37, .iconst 3), (38, .putfield 234), (41, .aload_n 0), (42, .getfield 62), (45, .aload_n 0), (46, .getfield 69), (49, .invokevirtual 237), (52, .ireturn)]
set_option maxRecDepth 20000 in
theorem tb_e79 : ∀ q ∈ tb_d79, decode prog_1_method_20_code q.1 = .ok (q.2, mm_ln q.2) := by decide +kernel
-- 80 IndexedCompiler.forget()I
def tb_d80 : List (Nat × Instr) := [(0, .aload_n 0), (1, .getfield 62), (4, .getfield 221), (7, .istore_n 1), (8, .aload_n 0), (9, .getfield 62), (12, .iconst 0), (13, .putfield 221), (16, .iload_n 1), (17, .ireturn)]
set_option maxRecDepth 20000 in
theorem tb_e80 : ∀ q ∈ tb_d80, decode prog_1_method_21_code q.1 = .ok (q.2, mm_ln q.2) := by decide +kernel
-- 81 IndexedCompiler.isSlot(I)Z
def tb_d81 : List (Nat × Instr) := [(0, .iload_n 0), (1, .ifCond .lt 13), (4, .iload_n 0), (5, .bipush 6), (7, .if_icmp .ge 7), (10, .iconst 1), (11, .goto 4), (14, .iconst 0), (15, .ireturn)]
set_option maxRecDepth 20000 in
theorem tb_e81 : ∀ q ∈ tb_d81, decode prog_1_method_22_code q.1 = .ok (q.2, mm_ln q.2) := by decide +kernel
-- 82 IndexedCompiler.isNumber(I)Z
def tb_d82 : List (Nat × Instr) := [(0, .iload_n 0), (1, .ldc 241), (3, .if_icmp .lt 13), (6, .iload_n 0), (7, .ldc 242), (9, .if_icmp .gt 7), (12, .iconst 1), (13, .goto 4), (16, .iconst 0), (17, .ireturn)]
set_option maxRecDepth 20000 in
theorem tb_e82 : ∀ q ∈ tb_d82, decode prog_1_method_23_code q.1 = .ok (q.2, mm_ln q.2) := by decide +kernel
-- 83 IndexedCompiler.isDeskExpression(IIII)Z
def tb_d83 : List (Nat × Instr) := [(0, .iload_n 0), (1, .sipush 1000), (4, .invokestatic 243), (7, .ifCond .eq 36), (10, .iload_n 1), (11, .sipush 1000), (14, .invokestatic 243), (17, .ifCond .eq 26), (20, .iload_n 2), (21, .sipush 1000), (24, .invokestatic 243), (27, .ifCond .eq 16), (30, .iload_n 3), (31, .ldc 246), (33, .invokestatic 243), (36, .ifCond .eq 7), (39, .iconst 1), (40, .goto 4), (43, .iconst 0), (44, .ireturn)]
set_option maxRecDepth 20000 in
theorem tb_e83 : ∀ q ∈ tb_d83, decode prog_1_method_24_code q.1 = .ok (q.2, mm_ln q.2) := by decide +kernel
-- 84 IndexedCompiler.within(II)Z
def tb_d84 : List (Nat × Instr) := [(0, .iload_n 0), (1, .iload_n 1), (2, .ineg), (3, .if_icmp .lt 12), (6, .iload_n 0), (7, .iload_n 1), (8, .if_icmp .gt 7), (11, .iconst 1), (12, .goto 4), (15, .iconst 0), (16, .ireturn)]
set_option maxRecDepth 20000 in
theorem tb_e84 : ∀ q ∈ tb_d84, decode prog_1_method_25_code q.1 = .ok (q.2, mm_ln q.2) := by decide +kernel
-- 85 IndexedCompiler.bytesIn(I)I
def tb_d85 : List (Nat × Instr) := [(0, .iconst 0), (1, .istore_n 1), (2, .bipush 24), (4, .istore_n 2), (5, .iload_n 2), (6, .ifCond .lt 22), (9, .iload_n 0), (10, .iload_n 2), (11, .iushr), (12, .sipush 255), (15, .iand), (16, .ifCond .eq 6), (19, .iinc 1 1), (22, .iinc 2 (-8)), (25, .goto (-20)), (28, .iload_n 1), (29, .ireturn)]
set_option maxRecDepth 20000 in
theorem tb_e85 : ∀ q ∈ tb_d85, decode prog_1_method_26_code q.1 = .ok (q.2, mm_ln q.2) := by decide +kernel
-- 86 IndexedCompiler.canRun(I)Z
def tb_d86 : List (Nat × Instr) := [(0, .aload_n 0), (1, .getfield 80), (4, .ifCond .eq 38), (7, .aload_n 0), (8, .getfield 32), (11, .getfield 247), (14, .ifCond .eq 28), (17, .iload_n 1), (18, .ifCond .lt 24), (21, .iload_n 1), (22, .aload_n 0), (23, .getfield 73), (26, .if_icmp .ge 16), (29, .aload_n 0), (30, .getfield 25), (33, .iload_n 1), (34, .aaload), (35, .ifnull 7), (38, .iconst 1), (39, .goto 4), (42, .iconst 0), (43, .ireturn)]
set_option maxRecDepth 20000 in
theorem tb_e86 : ∀ q ∈ tb_d86, decode prog_1_method_27_code q.1 = .ok (q.2, mm_ln q.2) := by decide +kernel
-- 87 IndexedCompiler.treeFor(I)LIndexedCompiler$Tree;
def tb_d87 : List (Nat × Instr) := [(0, .iconst 0), (1, .iload_n 1), (2, .bipush 8), (4, .invokestatic 250), (7, .invokestatic 255), (10, .istore_n 2), (11, .aload_n 0), (12, .getfield 25), (15, .iload_n 2), (16, .aaload), (17, .ifnonnull 16), (20, .aload_n 0), (21, .getfield 25), (24, .iload_n 2), (25, .new 23), (28, .dup), (29, .invokespecial 258), (32, .aastore), (33, .aload_n 0), (34, .getfield 25), (37, .iload_n 2), (38, .aaload), (39, .areturn)]
set_option maxRecDepth 20000 in
theorem tb_e87 : ∀ q ∈ tb_d87, decode prog_1_method_28_code q.1 = .ok (q.2, mm_ln q.2) := by decide +kernel
-- 88 IndexedCompiler$Line.<init>()V
def tb_d88 : List (Nat × Instr) := [(0, .aload_n 0), (1, .invokespecial 3), (4, .aload_n 0), (5, .sipush 480), (8, .newarray .char), (10, .putfield 11), (13, .aload_n 0), (14, .iconst 0), (15, .putfield 15), (18, .aload_n 0), (19, .sipush 481), (22, .newarray .int), (24, .putfield 19), (27, .aload_n 0), (28, .sipush 481), (31, .newarray .int), (33, .putfield 23), (36, .aload_n 0), (37, .sipush 481), (40, .newarray .int), (42, .putfield 26), (45, .aload_n 0), (46, .iconst 0), (47, .putfield 29), (50, .aload_n 0), (51, .iconst 0), (52, .putfield 32), (55, .aload_n 0), (56, .iconst 0), (57, .putfield 35), (60, .aload_n 0), (61, .iconst 0), (62, .putfield 38), (65, .aload_n 0), (66, .iconst 0), (67, .putfield 41), (70, .return_)]
set_option maxRecDepth 20000 in
theorem tb_e88 : ∀ q ∈ tb_d88, decode prog_6_method_1_code q.1 = .ok (q.2, mm_ln q.2) := by decide +kernel
-- 89 IndexedCompiler$Line.append(I)V
def tb_d89 : List (Nat × Instr) := [(0, .bipush 24), (2, .istore_n 2), (3, .iload_n 2), (4, .ifCond .lt 59), (7, .iload_n 1), (8, .iload_n 2), (9, .iushr), (10, .sipush 255), (13, .iand), (14, .istore_n 3), (15, .iload_n 3), (16, .ifCond .eq 41), (19, .aload_n 0), (20, .getfield 15), (23, .ifCond .lt 34), (26, .aload_n 0), (27, .getfield 15), (30, .sipush 480), (33, .if_icmp .ge 24), (36, .aload_n 0), (37, .getfield 11), (40, .aload_n 0), (41, .getfield 15), (44, .iload_n 3), (45, .i2c), (46, .castore), (47, .aload_n 0), (48, .dup), (49, .getfield 15), (52, .iconst 1), (53, .iadd), (54, .putfield 15), (57, .iinc 2 (-8)), (60, .goto (-57)), (63, .return_)]
set_option maxRecDepth 20000 in
theorem tb_e89 : ∀ q ∈ tb_d89, decode prog_6_method_2_code q.1 = .ok (q.2, mm_ln q.2) := by decide +kernel
-- 90 IndexedCompiler$Line.split()V
def tb_d90 : List (Nat × Instr) := [(0, .aload_n 0), (1, .iconst 0), (2, .putfield 29), (5, .iconst 0), (6, .istore_n 1), (7, .iload_n 1), (8, .aload_n 0), (9, .getfield 15), (12, .if_icmp .ge 72), (15, .aload_n 0), (16, .getfield 29), (19, .sipush 480), (22, .if_icmp .ge 62), (25, .aload_n 0), (26, .iload_n 1), (27, .invokevirtual 44), (30, .istore_n 2), (31, .iload_n 2), (32, .bipush 32), (34, .if_icmp .ne 9), (37, .iinc 1 1), (40, .goto 41), (43, .iload_n 2), (44, .invokestatic 48), (47, .ifCond .eq 12), (50, .aload_n 0), (51, .iload_n 1), (52, .invokevirtual 52), (55, .istore_n 1), (56, .goto 25), (59, .iload_n 2), (60, .invokestatic 56), (63, .ifCond .eq 12), (66, .aload_n 0), (67, .iload_n 1), (68, .invokevirtual 59), (71, .istore_n 1), (72, .goto 9), (75, .aload_n 0), (76, .iload_n 1), (77, .invokevirtual 62), (80, .istore_n 1), (81, .goto (-74)), (84, .aload_n 0), (85, .iconst 0), (86, .aload_n 0), (87, .getfield 15), (90, .iconst 0), (91, .invokevirtual 65), (94, .aload_n 0), (95, .iconst 0), (96, .putfield 32), (99, .aload_n 0), (100, .invokevirtual 69), (103, .return_)]
set_option maxRecDepth 20000 in
theorem tb_e90 : ∀ q ∈ tb_d90, decode prog_6_method_3_code q.1 = .ok (q.2, mm_ln q.2) := by decide +kernel
-- 91 IndexedCompiler$Line.advance()V
def tb_d91 : List (Nat × Instr) := [(0, .aload_n 0), (1, .getfield 32), (4, .aload_n 0), (5, .getfield 29), (8, .if_icmp .ge 10), (11, .aload_n 0), (12, .getfield 32), (15, .goto 9), (18, .aload_n 0), (19, .getfield 29), (22, .iconst 1), (23, .isub), (24, .istore_n 1), (25, .iload_n 1), (26, .ifCond .lt 40), (29, .iload_n 1), (30, .sipush 480), (33, .if_icmp .gt 33), (36, .aload_n 0), (37, .aload_n 0), (38, .getfield 19), (41, .iload_n 1), (42, .iaload), (43, .putfield 35), (46, .aload_n 0), (47, .aload_n 0), (48, .getfield 23), (51, .iload_n 1), (52, .iaload), (53, .putfield 38), (56, .aload_n 0), (57, .aload_n 0), (58, .getfield 26), (61, .iload_n 1), (62, .iaload), (63, .putfield 41), (66, .aload_n 0), (67, .iload_n 1), (68, .iconst 1), (69, .iadd), (70, .putfield 32), (73, .return_)]
set_option maxRecDepth 20000 in
theorem tb_e91 : ∀ q ∈ tb_d91, decode prog_6_method_4_code q.1 = .ok (q.2, mm_ln q.2) := by decide +kernel
-- 92 IndexedCompiler$Line.isWord(I)Z
def tb_d92 : List (Nat × Instr) := [(0, .aload_n 0), (1, .getfield 35), (4, .iconst 2), (5, .if_icmp .ne 15), (8, .aload_n 0), (9, .getfield 41), (12, .iload_n 1), (13, .if_icmp .ne 7), (16, .iconst 1), (17, .goto 4), (20, .iconst 0), (21, .ireturn)]
set_option maxRecDepth 20000 in
theorem tb_e92 : ∀ q ∈ tb_d92, decode prog_6_method_6_code q.1 = .ok (q.2, mm_ln q.2) := by decide +kernel
-- 93 IndexedCompiler$Line.note(III)V
def tb_d93 : List (Nat × Instr) := [(0, .aload_n 0), (1, .getfield 29), (4, .ifCond .lt 53), (7, .aload_n 0), (8, .getfield 29), (11, .sipush 480), (14, .if_icmp .gt 43), (17, .aload_n 0), (18, .getfield 19), (21, .aload_n 0), (22, .getfield 29), (25, .iload_n 1), (26, .iastore), (27, .aload_n 0), (28, .getfield 23), (31, .aload_n 0), (32, .getfield 29), (35, .iload_n 2), (36, .iastore), (37, .aload_n 0), (38, .getfield 26), (41, .aload_n 0), (42, .getfield 29), (45, .iload_n 3), (46, .iastore), (47, .aload_n 0), (48, .dup), (49, .getfield 29), (52, .iconst 1), (53, .iadd), (54, .putfield 29), (57, .return_)]
set_option maxRecDepth 20000 in
theorem tb_e93 : ∀ q ∈ tb_d93, decode prog_6_method_8_code q.1 = .ok (q.2, mm_ln q.2) := by decide +kernel
-- 94 IndexedCompiler$Reader.<init>()V
def tb_d94 : List (Nat × Instr) := [(0, .aload_n 0), (1, .invokespecial 3), (4, .aload_n 0), (5, .aconst_null), (6, .putfield 9), (9, .aload_n 0), (10, .aconst_null), (11, .putfield 15), (14, .aload_n 0), (15, .iconst (-1)), (16, .putfield 19), (19, .return_)]
set_option maxRecDepth 20000 in
theorem tb_e94 : ∀ q ∈ tb_d94, decode prog_8_method_1_code q.1 = .ok (q.2, mm_ln q.2) := by decide +kernel
-- 95 IndexedCompiler$Reader.read(LIndexedCompiler$Line;LIndexedCompiler$Tree;)Z
def tb_d95 : List (Nat × Instr) := [(0, .aload_n 1), (1, .ifnull 7), (4, .aload_n 2), (5, .ifnonnull 5), (8, .iconst 0), (9, .ireturn), (10, .aload_n 0), (11, .aload_n 1), (12, .putfield 9), (15, .aload_n 0), (16, .aload_n 2), (17, .putfield 15), (20, .aload_n 0), (21, .iconst (-1)), (22, .putfield 19), (25, .aload_n 0), (26, .getfield 15), (29, .invokevirtual 23), (32, .aload_n 0), (33, .getfield 9), (36, .invokevirtual 28), (39, .aload_n 0), (40, .sipush 6830), (43, .invokevirtual 33), (46, .aload_n 0), (47, .getfield 15), (50, .aload_n 0), (51, .getfield 9), (54, .getfield 37), (57, .putfield 40), (60, .aload_n 0), (61, .getfield 15), (64, .aload_n 0), (65, .invokevirtual 43), (68, .putfield 47), (71, .aload_n 0), (72, .getfield 9), (75, .bipush 123), (77, .invokevirtual 50), (80, .ifCond .eq 7), (83, .aload_n 0), (84, .invokevirtual 54), (87, .aload_n 0), (88, .bipush 40), (90, .invokevirtual 57), (93, .aload_n 0), (94, .getfield 9), (97, .bipush 41), (99, .invokevirtual 50), (102, .ifCond .ne 7), (105, .aload_n 0), (106, .invokevirtual 60), (109, .aload_n 0), (110, .bipush 41), (112, .invokevirtual 57), (115, .aload_n 0), (116, .bipush 58), (118, .invokevirtual 57), (121, .aload_n 0), (122, .getfield 15), (125, .aload_n 0), (126, .invokevirtual 63), (129, .putfield 66), (132, .aload_n 0), (133, .bipush 61), (135, .invokevirtual 57), (138, .aload_n 0), (139, .getfield 15), (142, .aload_n 0), (143, .iconst 1), (144, .invokevirtual 69), (147, .putfield 73), (150, .aload_n 0), (151, .getfield 9), (154, .getfield 76), (157, .ifCond .eq 7), (160, .aload_n 0), (161, .invokevirtual 79), (164, .goto 6), (167, .astore_n 3), (168, .iconst 0), (169, .ireturn), (170, .iconst 1), (171, .ireturn)]
set_option maxRecDepth 20000 in
theorem tb_e95 : ∀ q ∈ tb_d95, decode prog_8_method_2_code q.1 = .ok (q.2, mm_ln q.2) := by decide +kernel
-- 96 IndexedCompiler$Reader.takeWord(I)V
def tb_d96 : List (Nat × Instr) := [(0, .aload_n 0), (1, .getfield 9), (4, .iload_n 1), (5, .invokevirtual 119), (8, .ifCond .ne 7), (11, .aload_n 0), (12, .invokevirtual 79), (15, .aload_n 0), (16, .getfield 9), (19, .invokevirtual 93), (22, .return_)]
set_option maxRecDepth 20000 in
theorem tb_e96 : ∀ q ∈ tb_d96, decode prog_8_method_26_code q.1 = .ok (q.2, mm_ln q.2) := by decide +kernel
-- 97 IndexedCompiler$Reader.refuse()V
def tb_d97 : List (Nat × Instr) := [(0, .aload_n 0), (1, .aload_n 0), (2, .getfield 9), (5, .getfield 37), (8, .putfield 19)]
set_option maxRecDepth 20000 in
theorem tb_e97 : ∀ q ∈ tb_d97, decode prog_8_method_30_code q.1 = .ok (q.2, mm_ln q.2) := by decide +kernel
-- 98 IndexedCompiler$Solver.<init>()V
def tb_d98 : List (Nat × Instr) := [(0, .aload_n 0), (1, .invokespecial 5), (4, .aload_n 0), (5, .sipush 2000), (8, .newarray .long), (10, .putfield 13), (13, .aload_n 0), (14, .sipush 2000), (17, .newarray .long), (19, .putfield 17), (22, .aload_n 0), (23, .bipush 25), (25, .newarray .long), (27, .putfield 20), (30, .aload_n 0), (31, .iconst 0), (32, .putfield 23), (35, .aload_n 0), (36, .bipush 25), (38, .putfield 27), (41, .aload_n 0), (42, .iconst 0), (43, .putfield 30), (46, .aload_n 0), (47, .iconst 0), (48, .putfield 34), (51, .return_)]
set_option maxRecDepth 20000 in
theorem tb_e98 : ∀ q ∈ tb_d98, decode prog_11_method_1_code q.1 = .ok (q.2, mm_ln q.2) := by decide +kernel
-- 99 IndexedCompiler$Solver.proves([JIILIndexedCompiler$Expression;)Z
def tb_d99 : List (Nat × Instr) := [(0, .iconst 0), (1, .iload_n 3), (2, .bipush 24), (4, .invokestatic 37), (7, .invokestatic 43), (10, .istore 5), (12, .aload_n 0), (13, .iconst 0), (14, .putfield 23), (17, .aload_n 0), (18, .iload 5), (20, .iconst 1), (21, .iadd), (22, .putfield 27), (25, .aload_n 0), (26, .iconst 0), (27, .putfield 30), (30, .aload_n 0), (31, .iconst 0), (32, .putfield 34), (35, .iconst 0), (36, .istore 6), (38, .iload 6), (40, .iload_n 2), (41, .if_icmp .ge 48), (44, .iload 6), (46, .iconst 1), (47, .iadd), (48, .bipush 25), (50, .imul), (51, .aload_n 1), (52, .arraylength), (53, .if_icmp .gt 36), (56, .aload_n 0), (57, .getfield 30), (60, .ifCond .ne 29), (63, .aload_n 1), (64, .iload 6), (66, .bipush 25), (68, .imul), (69, .aload_n 0), (70, .getfield 20), (73, .iconst 0), (74, .bipush 25), (76, .invokestatic 46), (79, .aload_n 0), (80, .invokevirtual 52), (83, .iinc 6 1), (86, .goto (-48)), (89, .iconst 0), (90, .istore 6), (92, .iload 6), (94, .bipush 25), (96, .if_icmp .ge 25), (99, .aload_n 0), (100, .getfield 20), (103, .iload 6), (105, .aload 4), (107, .getfield 55), (110, .iload 6), (112, .laload), (113, .lneg), (114, .lastore), (115, .iinc 6 1), (118, .goto (-26)), (121, .aload_n 0), (122, .getfield 20), (125, .iconst 0), (126, .dup2), (127, .laload), (128, .lconst 1), (129, .lsub), (130, .lastore), (131, .aload_n 0), (132, .invokevirtual 52), (135, .iload 5), (137, .istore 6), (139, .iload 6), (141, .ifCond .le 29), (144, .aload_n 0), (145, .getfield 30), (148, .ifCond .ne 22), (151, .aload_n 0), (152, .getfield 34), (155, .ifCond .ne 15), (158, .aload_n 0), (159, .iload 6), (161, .invokevirtual 58), (164, .iinc 6 (-1)), (167, .goto (-28)), (170, .aload_n 0), (171, .getfield 34), (174, .ifCond .eq 14), (177, .aload_n 0), (178, .getfield 30), (181, .ifCond .ne 7), (184, .iconst 1), (185, .goto 4), (188, .iconst 0), (189, .ireturn)]
set_option maxRecDepth 20000 in
theorem tb_e99 : ∀ q ∈ tb_d99, decode prog_11_method_2_code q.1 = .ok (q.2, mm_ln q.2) := by decide +kernel
-- 100 IndexedCompiler$Solver.takeAway(I)V
def tb_d100 : List (Nat × Instr) := [(0, .aload_n 0), (1, .getfield 13), (4, .astore_n 2), (5, .aload_n 0), (6, .getfield 23), (9, .istore_n 3), (10, .aload_n 0), (11, .aload_n 0), (12, .getfield 17), (15, .putfield 13), (18, .aload_n 0), (19, .aload_n 2), (20, .putfield 17), (23, .aload_n 0), (24, .iconst 0), (25, .putfield 23), (28, .aload_n 0), (29, .iload_n 1), (30, .putfield 27), (33, .iconst 0), (34, .istore 4), (36, .iload 4), (38, .iload_n 3), (39, .if_icmp .ge 159), (42, .aload_n 0), (43, .getfield 30), (46, .ifCond .ne 152), (49, .iload 4), (51, .bipush 25), (53, .imul), (54, .istore 5), (56, .aload_n 2), (57, .iload 5), (59, .iload_n 1), (60, .iadd), (61, .laload), (62, .lstore 6), (64, .lload 6), (66, .lconst 0), (67, .lcmp), (68, .ifCond .ne 22), (71, .aload_n 2), (72, .iload 5), (74, .aload_n 0), (75, .getfield 20), (78, .iconst 0), (79, .aload_n 0), (80, .getfield 27), (83, .invokestatic 46), (86, .aload_n 0), (87, .invokevirtual 52), (90, .iconst 0), (91, .istore 8), (93, .lload 6), (95, .lconst 0), (96, .lcmp), (97, .ifCond .le 95), (100, .iload 8), (102, .iload_n 3), (103, .if_icmp .ge 89), (106, .aload_n 0), (107, .getfield 30), (110, .ifCond .ne 82), (113, .iload 8), (115, .bipush 25), (117, .imul), (118, .istore 9), (120, .aload_n 2), (121, .iload 9), (123, .iload_n 1), (124, .iadd), (125, .laload), (126, .lneg), (127, .lstore 10), (129, .lload 10), (131, .lconst 0), (132, .lcmp), (133, .ifCond .le 53), (136, .iconst 0), (137, .istore 12), (139, .iload 12), (141, .aload_n 0), (142, .getfield 27), (145, .if_icmp .ge 37), (148, .aload_n 0), (149, .getfield 20), (152, .iload 12), (154, .lload 10), (156, .aload_n 2), (157, .iload 5), (159, .iload 12), (161, .iadd), (162, .laload), (163, .lmul), (164, .lload 6), (166, .aload_n 2), (167, .iload 9), (169, .iload 12), (171, .iadd), (172, .laload), (173, .lmul), (174, .ladd), (175, .lastore), (176, .iinc 12 1), (179, .goto (-40)), (182, .aload_n 0), (183, .invokevirtual 52), (186, .iinc 8 1), (189, .goto (-96)), (192, .iinc 4 1), (195, .goto (-159)), (198, .return_)]
set_option maxRecDepth 20000 in
theorem tb_e100 : ∀ q ∈ tb_d100, decode prog_11_method_3_code q.1 = .ok (q.2, mm_ln q.2) := by decide +kernel
-- 101 IndexedCompiler$Solver.keepWork()V
def tb_d101_0 : List (Nat × Instr) := [(0, .lconst 0), (1, .lstore_n 1), (2, .iconst 1), (3, .istore_n 3), (4, .iload_n 3), (5, .aload_n 0), (6, .getfield 27), (9, .if_icmp .ge 63), (12, .lload_n 1), (13, .lconst 1), (14, .lcmp), (15, .ifCond .eq 57), (18, .aload_n 0), (19, .getfield 20), (22, .iload_n 3), (23, .laload), (24, .invokestatic 62), (27, .lstore 4), (29, .iconst 0), (30, .istore 6), (32, .iload 6), (34, .sipush 200), (37, .if_icmp .ge 29), (40, .lload 4), (42, .lconst 0), (43, .lcmp), (44, .ifCond .eq 22), (47, .lload_n 1), (48, .lload 4), (50, .lrem), (51, .lstore 7), (53, .lload 4), (55, .lstore_n 1), (56, .lload 7)]
set_option maxRecDepth 20000 in
theorem tb_e101_0 : ∀ q ∈ tb_d101_0, decode prog_11_method_4_code q.1 = .ok (q.2, mm_ln q.2) := by decide +kernel
def tb_d101_1 : List (Nat × Instr) := [(58, .lstore 4), (60, .iinc 6 1), (63, .goto (-31)), (66, .iinc 3 1), (69, .goto (-65)), (72, .lload_n 1), (73, .lconst 1), (74, .lcmp), (75, .ifCond .le 45), (78, .iconst 1), (79, .istore_n 3), (80, .iload_n 3), (81, .aload_n 0), (82, .getfield 27), (85, .if_icmp .ge 19), (88, .aload_n 0), (89, .getfield 20), (92, .iload_n 3), (93, .dup2), (94, .laload), (95, .lload_n 1), (96, .ldiv), (97, .lastore), (98, .iinc 3 1), (101, .goto (-21)), (104, .aload_n 0), (105, .getfield 20), (108, .iconst 0), (109, .aload_n 0), (110, .getfield 20), (113, .iconst 0), (114, .laload), (115, .lload_n 1), (116, .invokestatic 66)]
set_option maxRecDepth 20000 in
theorem tb_e101_1 : ∀ q ∈ tb_d101_1, decode prog_11_method_4_code q.1 = .ok (q.2, mm_ln q.2) := by decide +kernel
def tb_d101_2 : List (Nat × Instr) := [(119, .lastore), (120, .iconst 0), (121, .istore_n 3), (122, .iload_n 3), (123, .aload_n 0), (124, .getfield 27), (127, .if_icmp .ge 49), (130, .aload_n 0), (131, .dup), (132, .getfield 30), (135, .aload_n 0), (136, .getfield 20), (139, .iload_n 3), (140, .laload), (141, .ldc2_w 70), (144, .lcmp), (145, .ifCond .gt 16), (148, .aload_n 0), (149, .getfield 20), (152, .iload_n 3), (153, .laload), (154, .ldc2_w 72), (157, .lcmp), (158, .ifCond .ge 7), (161, .iconst 1), (162, .goto 4), (165, .iconst 0), (166, .ior), (167, .putfield 30), (170, .iinc 3 1), (173, .goto (-51)), (176, .lload_n 1), (177, .lconst 0), (178, .lcmp)]
set_option maxRecDepth 20000 in
theorem tb_e101_2 : ∀ q ∈ tb_d101_2, decode prog_11_method_4_code q.1 = .ok (q.2, mm_ln q.2) := by decide +kernel
def tb_d101_3 : List (Nat × Instr) := [(179, .ifCond .ne 29), (182, .aload_n 0), (183, .dup), (184, .getfield 34), (187, .aload_n 0), (188, .getfield 20), (191, .iconst 0), (192, .laload), (193, .lconst 0), (194, .lcmp), (195, .ifCond .ge 7), (198, .iconst 1), (199, .goto 4), (202, .iconst 0), (203, .ior), (204, .putfield 34), (207, .return_), (208, .iconst 0), (209, .istore_n 3), (210, .iload_n 3), (211, .aload_n 0), (212, .getfield 23), (215, .if_icmp .ge 87), (218, .iload_n 3), (219, .bipush 25), (221, .imul), (222, .istore 4), (224, .iconst 1), (225, .istore 5), (227, .iload 5), (229, .aload_n 0), (230, .getfield 27), (233, .if_icmp .ge 30), (236, .aload_n 0)]
set_option maxRecDepth 20000 in
theorem tb_e101_3 : ∀ q ∈ tb_d101_3, decode prog_11_method_4_code q.1 = .ok (q.2, mm_ln q.2) := by decide +kernel
def tb_d101_4 : List (Nat × Instr) := [(237, .getfield 13), (240, .iload 4), (242, .iload 5), (244, .iadd), (245, .laload), (246, .aload_n 0), (247, .getfield 20), (250, .iload 5), (252, .laload), (253, .lcmp), (254, .ifCond .ne 9), (257, .iinc 5 1), (260, .goto (-33)), (263, .iload 5), (265, .aload_n 0), (266, .getfield 27), (269, .if_icmp .ne 27), (272, .aload_n 0), (273, .getfield 13), (276, .iload 4), (278, .aload_n 0), (279, .getfield 13), (282, .iload 4), (284, .laload), (285, .aload_n 0), (286, .getfield 20), (289, .iconst 0), (290, .laload), (291, .invokestatic 74), (294, .lastore), (295, .return_), (296, .iinc 3 1), (299, .goto (-89)), (302, .aload_n 0)]
set_option maxRecDepth 20000 in
theorem tb_e101_4 : ∀ q ∈ tb_d101_4, decode prog_11_method_4_code q.1 = .ok (q.2, mm_ln q.2) := by decide +kernel
def tb_d101_5 : List (Nat × Instr) := [(303, .getfield 23), (306, .bipush 80), (308, .if_icmp .lt 9), (311, .aload_n 0), (312, .iconst 1), (313, .putfield 30), (316, .return_), (317, .aload_n 0), (318, .getfield 20), (321, .iconst 0), (322, .aload_n 0), (323, .getfield 13), (326, .aload_n 0), (327, .getfield 23), (330, .bipush 25), (332, .imul), (333, .aload_n 0), (334, .getfield 27), (337, .invokestatic 46), (340, .aload_n 0), (341, .dup), (342, .getfield 23), (345, .iconst 1), (346, .iadd), (347, .putfield 23), (350, .return_)]
set_option maxRecDepth 20000 in
theorem tb_e101_5 : ∀ q ∈ tb_d101_5, decode prog_11_method_4_code q.1 = .ok (q.2, mm_ln q.2) := by decide +kernel
def tb_d101 : List (Nat × Instr) := tb_d101_0 ++ (tb_d101_1 ++ (tb_d101_2 ++ (tb_d101_3 ++ (tb_d101_4 ++ (tb_d101_5)))))
theorem tb_e101 : ∀ q ∈ tb_d101, decode prog_11_method_4_code q.1 = .ok (q.2, mm_ln q.2) := List.forall_mem_append.mpr ⟨tb_e101_0, List.forall_mem_append.mpr ⟨tb_e101_1, List.forall_mem_append.mpr ⟨tb_e101_2, List.forall_mem_append.mpr ⟨tb_e101_3, List.forall_mem_append.mpr ⟨tb_e101_4, tb_e101_5⟩⟩⟩⟩⟩
-- 102 IndexedCompiler$Expression.<init>()V
def tb_d102 : List (Nat × Instr) := [(0, .aload_n 0), (1, .invokespecial 3), (4, .aload_n 0), (5, .bipush 26), (7, .newarray .long), (9, .putfield 9), (12, .aload_n 0), (13, .iconst 0), (14, .putfield 13), (17, .return_)]
set_option maxRecDepth 20000 in
theorem tb_e102 : ∀ q ∈ tb_d102, decode prog_4_method_1_code q.1 = .ok (q.2, mm_ln q.2) := by decide +kernel
-- 103 IndexedCompiler$Expression.becomeNumber(J)V
def tb_d103 : List (Nat × Instr) := [(0, .aload_n 0), (1, .getfield 9), (4, .lconst 0), (5, .invokestatic 17), (8, .aload_n 0), (9, .getfield 9), (12, .iconst 0), (13, .lload_n 1), (14, .lastore), (15, .aload_n 0), (16, .iconst 0), (17, .putfield 13), (20, .return_)]
set_option maxRecDepth 20000 in
theorem tb_e103 : ∀ q ∈ tb_d103, decode prog_4_method_2_code q.1 = .ok (q.2, mm_ln q.2) := by decide +kernel
-- 104 IndexedCompiler$Expression.becomeDesk(IIII)V
def tb_d104 : List (Nat × Instr) := [(0, .aload_n 0), (1, .iload 4), (3, .i2l), (4, .invokevirtual 23), (7, .aload_n 0), (8, .getfield 9), (11, .iconst 1), (12, .iload_n 1), (13, .i2l), (14, .lastore), (15, .aload_n 0), (16, .getfield 9), (19, .iconst 2), (20, .iload_n 2), (21, .i2l), (22, .lastore), (23, .aload_n 0), (24, .getfield 9), (27, .iconst 3), (28, .iload_n 3), (29, .i2l), (30, .lastore), (31, .return_)]
set_option maxRecDepth 20000 in
theorem tb_e104 : ∀ q ∈ tb_d104, decode prog_4_method_5_code q.1 = .ok (q.2, mm_ln q.2) := by decide +kernel
-- 105 IndexedCompiler$Ground.<init>(II)V
def tb_d105 : List (Nat × Instr) := [(0, .aload_n 0), (1, .invokespecial 3), (4, .aload_n 0), (5, .new 9), (8, .dup), (9, .invokespecial 11), (12, .putfield 12), (15, .aload_n 0), (16, .iload_n 1), (17, .iconst 0), (18, .invokestatic 18), (21, .putfield 24), (24, .aload_n 0), (25, .aload_n 0), (26, .getfield 24), (29, .bipush 25), (31, .imul), (32, .newarray .long), (34, .putfield 28), (37, .aload_n 0), (38, .iload_n 2), (39, .iconst 0), (40, .invokestatic 18), (43, .putfield 32), (46, .aload_n 0), (47, .aload_n 0), (48, .getfield 32), (51, .bipush 6), (53, .imul), (54, .newarray .int), (56, .putfield 35), (59, .aload_n 0), (60, .bipush 8), (62, .anewarray 39), (65, .putfield 41), (68, .iconst 0), (69, .istore_n 3), (70, .iload_n 3), (71, .bipush 8), (73, .if_icmp .ge 22), (76, .aload_n 0), (77, .getfield 41), (80, .iload_n 3), (81, .new 39), (84, .dup), (85, .invokespecial 45), (88, .aastore), (89, .iinc 3 1), (92, .goto (-22)), (95, .aload_n 0), (96, .iconst 0), (97, .putfield 46), (100, .aload_n 0), (101, .iconst 0), (102, .putfield 49), (105, .aload_n 0), (106, .iconst 0), (107, .putfield 52), (110, .aload_n 0), (111, .iconst 0), (112, .putfield 55), (115, .aload_n 0), (116, .iconst 0), (117, .putfield 58), (120, .aload_n 0), (121, .iconst 1), (122, .putfield 61), (125, .aload_n 0), (126, .iconst 0), (127, .putfield 65), (130, .aload_n 0), (131, .iconst (-1)), (132, .putfield 68), (135, .return_)]
set_option maxRecDepth 20000 in
theorem tb_e105 : ∀ q ∈ tb_d105, decode prog_5_method_1_code q.1 = .ok (q.2, mm_ln q.2) := by decide +kernel
-- 106 IndexedCompiler$Ground.begin()V
def tb_d106 : List (Nat × Instr) := [(0, .aload_n 0), (1, .iconst 0), (2, .putfield 46), (5, .aload_n 0), (6, .iconst 0), (7, .putfield 49), (10, .aload_n 0), (11, .iconst 0), (12, .putfield 52), (15, .aload_n 0), (16, .iconst 0), (17, .putfield 55), (20, .aload_n 0), (21, .iconst 0), (22, .putfield 58), (25, .aload_n 0), (26, .iconst 1), (27, .putfield 61), (30, .aload_n 0), (31, .iconst 0), (32, .putfield 65), (35, .aload_n 0), (36, .iconst (-1)), (37, .putfield 68), (40, .return_)]
set_option maxRecDepth 20000 in
theorem tb_e106 : ∀ q ∈ tb_d106, decode prog_5_method_2_code q.1 = .ok (q.2, mm_ln q.2) := by decide +kernel
-- 107 IndexedCompiler$Ground.addFact(LIndexedCompiler$Expression;I)V
def tb_d107 : List (Nat × Instr) := [(0, .aload_n 0), (1, .getfield 49), (4, .ifCond .lt 14), (7, .aload_n 0), (8, .getfield 49), (11, .aload_n 0), (12, .getfield 24), (15, .if_icmp .lt 10), (18, .aload_n 0), (19, .bipush (-8)), (21, .iload_n 2), (22, .invokevirtual 78), (25, .aload_n 1), (26, .getfield 82), (29, .iconst 0), (30, .aload_n 0), (31, .getfield 28), (34, .aload_n 0), (35, .getfield 49), (38, .bipush 25), (40, .imul), (41, .bipush 25), (43, .invokestatic 85), (46, .aload_n 0), (47, .dup), (48, .getfield 49), (51, .iconst 1), (52, .iadd), (53, .putfield 49), (56, .return_)]
set_option maxRecDepth 20000 in
theorem tb_e107 : ∀ q ∈ tb_d107, decode prog_5_method_6_code q.1 = .ok (q.2, mm_ln q.2) := by decide +kernel
-- 108 IndexedCompiler$Ground.proves(LIndexedCompiler$Expression;)Z
def tb_d108 : List (Nat × Instr) := [(0, .aload_n 0), (1, .getfield 12), (4, .aload_n 0), (5, .getfield 28), (8, .aload_n 0), (9, .getfield 49), (12, .aload_n 0), (13, .getfield 52), (16, .aload_n 1), (17, .invokevirtual 105), (20, .ireturn)]
set_option maxRecDepth 20000 in
theorem tb_e108 : ∀ q ∈ tb_d108, decode prog_5_method_11_code q.1 = .ok (q.2, mm_ln q.2) := by decide +kernel
-- 109 IndexedCompiler$Checker.<init>()V
def tb_d109 : List (Nat × Instr) := [(0, .aload_n 0), (1, .invokespecial 3), (4, .aload_n 0), (5, .new 9), (8, .dup), (9, .bipush 48), (11, .sipush 200), (14, .invokespecial 13), (17, .putfield 16), (20, .aload_n 0), (21, .aconst_null), (22, .putfield 20), (25, .aload_n 0), (26, .aconst_null), (27, .putfield 24), (30, .aload_n 0), (31, .sipush 300), (34, .anewarray 28), (37, .putfield 30), (40, .aload_n 0), (41, .bipush 20), (43, .anewarray 34), (46, .putfield 36), (49, .aload_n 0), (50, .bipush 24), (52, .newarray .int), (54, .putfield 40), (57, .aload_n 0), (58, .bipush 24), (60, .anewarray 28), (63, .putfield 44), (66, .aload_n 0), (67, .iconst (-1)), (68, .putfield 47), (71, .aload_n 0), (72, .iconst 0), (73, .putfield 51), (76, .return_)]
set_option maxRecDepth 20000 in
theorem tb_e109 : ∀ q ∈ tb_d109, decode prog_2_method_1_code q.1 = .ok (q.2, mm_ln q.2) := by decide +kernel
-- 110 IndexedCompiler$Checker.judge([LIndexedCompiler$Tree;I)I
def tb_d110 : List (Nat × Instr) := [(0, .aload_n 1), (1, .ifnonnull 5), (4, .iconst 0), (5, .ireturn), (6, .aload_n 0), (7, .aload_n 1), (8, .putfield 20), (11, .aload_n 0), (12, .iload_n 2), (13, .iconst 0), (14, .invokestatic 55), (17, .aload_n 1), (18, .arraylength), (19, .invokestatic 61), (22, .putfield 64), (25, .aload_n 0), (26, .iconst 0), (27, .putfield 67), (30, .aload_n 0), (31, .iconst 0), (32, .putfield 70), (35, .aload_n 0), (36, .iconst 0), (37, .putfield 51), (40, .aload_n 0), (41, .getfield 16), (44, .invokevirtual 73), (47, .aload_n 0), (48, .iconst 0), (49, .putfield 47), (52, .aload_n 0), (53, .getfield 47), (56, .aload_n 0), (57, .getfield 64), (60, .if_icmp .ge 28), (63, .aload_n 0), (64, .invokevirtual 76), (67, .aload_n 0), (68, .aload_n 0), (69, .invokevirtual 79), (72, .invokevirtual 83), (75, .aload_n 0), (76, .dup), (77, .getfield 47), (80, .iconst 1), (81, .iadd), (82, .putfield 47), (85, .goto (-33)), (88, .aload_n 0), (89, .iconst 0), (90, .putfield 47), (93, .aload_n 0), (94, .getfield 47), (97, .aload_n 0), (98, .getfield 64), (101, .if_icmp .ge 42), (104, .aload_n 0), (105, .invokevirtual 76), (108, .aload_n 0), (109, .invokevirtual 79), (112, .astore_n 3), (113, .aload_n 0), (114, .aload_n 3), (115, .invokevirtual 83), (118, .aload_n 0), (119, .aload_n 0), (120, .getfield 24), (123, .getfield 87), (126, .aload_n 3), (127, .invokevirtual 92), (130, .aload_n 0), (131, .dup), (132, .getfield 47), (135, .iconst 1), (136, .iadd), (137, .putfield 47), (140, .goto (-47)), (143, .goto 38), (146, .astore_n 3), (147, .aload_n 0), (148, .getfield 16), (151, .iconst 0), (152, .putfield 98), (155, .aload_n 0), (156, .getfield 16), (159, .iconst 0), (160, .putfield 101), (163, .aload_n 0), (164, .iconst 0), (165, .putfield 67), (168, .aload_n 0), (169, .iconst 0), (170, .putfield 70), (173, .aload_n 0), (174, .getfield 16), (177, .getfield 104), (180, .ireturn), (181, .aload_n 0), (182, .iconst (-1)), (183, .putfield 47), (186, .aload_n 0), (187, .aload_n 0), (188, .getfield 16), (191, .getfield 107), (194, .putfield 51), (197, .aload_n 0), (198, .getfield 51), (201, .ifCond .eq 7), (204, .iconst 1), (205, .goto 4), (208, .iconst 0), (209, .ireturn)]
set_option maxRecDepth 20000 in
theorem tb_e110 : ∀ q ∈ tb_d110, decode prog_2_method_2_code q.1 = .ok (q.2, mm_ln q.2) := by decide +kernel
-- 111 IndexedCompiler$Checker.faultPlace()I
def tb_d111 : List (Nat × Instr) := [(0, .aload_n 0), (1, .getfield 16), (4, .getfield 110), (7, .ireturn)]
set_option maxRecDepth 20000 in
theorem tb_e111 : ∀ q ∈ tb_d111, decode prog_2_method_3_code q.1 = .ok (q.2, mm_ln q.2) := by decide +kernel
-- 112 IndexedCompiler$Checker.tally(I)I
def tb_d112 : List (Nat × Instr) := [(0, .iload_n 1), (32, .aload_n 0), (33, .getfield 16), (36, .getfield 98), (39, .ireturn), (40, .aload_n 0), (41, .getfield 16), (44, .getfield 101), (47, .ireturn), (48, .aload_n 0), (49, .getfield 67), (52, .ireturn), (53, .aload_n 0), (54, .getfield 70), (57, .ireturn), (58, .aload_n 0), (59, .getfield 47), (62, .ireturn)]
set_option maxRecDepth 20000 in
theorem tb_e112 : ∀ q ∈ tb_d112, decode prog_2_method_5_code q.1 = .ok (q.2, mm_ln q.2) := by decide +kernel
-- 113 IndexedCompiler$Coder.<init>()V
def tb_d113 : List (Nat × Instr) := [(0, .aload_n 0), (1, .invokespecial 5), (4, .aload_n 0), (5, .bipush 8), (7, .anewarray 11), (10, .putfield 13), (13, .aload_n 0), (14, .bipush 8), (16, .newarray .int), (18, .putfield 19), (21, .aload_n 0), (22, .bipush 8), (24, .newarray .int), (26, .putfield 22), (29, .aload_n 0), (30, .bipush 8), (32, .newarray .boolean), (34, .putfield 25), (37, .aload_n 0), (38, .aconst_null), (39, .putfield 29), (42, .aload_n 0), (43, .aconst_null), (44, .putfield 33), (47, .aload_n 0), (48, .iconst 0), (49, .putfield 36), (52, .return_)]
set_option maxRecDepth 20000 in
theorem tb_e113 : ∀ q ∈ tb_d113, decode prog_3_method_1_code q.1 = .ok (q.2, mm_ln q.2) := by decide +kernel
-- 114 IndexedCompiler$Coder.compile([LIndexedCompiler$Tree;I)V
def tb_d114 : List (Nat × Instr) := [(0, .aload_n 1), (1, .ifnonnull 4), (4, .return_), (5, .iconst 0), (6, .istore_n 3), (7, .iload_n 3), (8, .iload_n 2), (9, .if_icmp .ge 142), (12, .iload_n 3), (13, .bipush 8), (15, .if_icmp .ge 136), (18, .iload_n 3), (19, .aload_n 1), (20, .arraylength), (21, .if_icmp .ge 130), (24, .aload_n 0), (25, .getfield 13), (28, .iload_n 3), (29, .aaload), (30, .ifnonnull 14), (33, .aload_n 0), (34, .getfield 13), (37, .iload_n 3), (38, .sipush 1000), (41, .newarray .int), (43, .aastore), (44, .aload_n 0), (45, .aload_n 0), (46, .getfield 13), (49, .iload_n 3), (50, .aaload), (51, .putfield 33), (54, .aload_n 0), (55, .aload_n 1), (56, .iload_n 3), (57, .aaload), (58, .putfield 29), (61, .aload_n 0), (62, .iconst 0), (63, .putfield 36), (66, .aload_n 0), (67, .getfield 29), (70, .ifnull 65), (73, .aload_n 0), (74, .aload_n 0), (75, .getfield 29), (78, .getfield 40), (81, .invokevirtual 45), (84, .aload_n 0), (85, .bipush 22), (87, .iconst 0), (88, .invokevirtual 49), (91, .aload_n 0), (92, .getfield 22), (95, .iload_n 3), (96, .aload_n 0), (97, .getfield 29), (100, .getfield 53), (103, .iastore), (104, .aload_n 0), (105, .getfield 25), (108, .iload_n 3), (109, .aload_n 0), (110, .getfield 29), (113, .aload_n 0), (114, .getfield 29), (117, .getfield 56), (120, .iconst 0), (121, .invokevirtual 59), (124, .bipush 22), (126, .if_icmp .ne 7), (129, .iconst 1), (130, .goto 4), (133, .iconst 0), (134, .bastore), (135, .aload_n 0), (136, .getfield 19), (139, .iload_n 3), (140, .aload_n 0), (141, .getfield 36), (144, .iastore), (145, .iinc 3 1), (148, .goto (-141)), (151, .return_)]
set_option maxRecDepth 20000 in
theorem tb_e114 : ∀ q ∈ tb_d114, decode prog_3_method_2_code q.1 = .ok (q.2, mm_ln q.2) := by decide +kernel
-- 115 IndexedCompiler$Slots.<init>()V
def tb_d115 : List (Nat × Instr) := [(0, .aload_n 0), (1, .invokespecial 3), (4, .aload_n 0), (5, .bipush 6), (7, .newarray .boolean), (9, .putfield 9), (12, .aload_n 0), (13, .bipush 6), (15, .newarray .int), (17, .putfield 15), (20, .aload_n 0), (21, .sipush 240), (24, .newarray .int), (26, .putfield 19), (29, .aload_n 0), (30, .iconst 4), (31, .newarray .int), (33, .putfield 22), (36, .return_)]
set_option maxRecDepth 20000 in
theorem tb_e115 : ∀ q ∈ tb_d115, decode prog_10_method_1_code q.1 = .ok (q.2, mm_ln q.2) := by decide +kernel
-- 116 IndexedCompiler$Slots.becomeNumber(II)V
def tb_d116 : List (Nat × Instr) := [(0, .iload_n 1), (1, .invokestatic 25), (4, .ifCond .eq 17), (7, .aload_n 0), (8, .getfield 9), (11, .iload_n 1), (12, .iconst 0), (13, .bastore), (14, .aload_n 0), (15, .getfield 15), (18, .iload_n 1), (19, .iload_n 2), (20, .iastore), (21, .return_)]
set_option maxRecDepth 20000 in
theorem tb_e116 : ∀ q ∈ tb_d116, decode prog_10_method_2_code q.1 = .ok (q.2, mm_ln q.2) := by decide +kernel
-- 117 IndexedCompiler$Slots.becomeRow(II)V
def tb_d117 : List (Nat × Instr) := [(0, .iload_n 1), (1, .invokestatic 25), (4, .ifCond .eq 52), (7, .iload_n 2), (8, .ifCond .lt 48), (11, .iload_n 2), (12, .bipush 40), (14, .if_icmp .gt 42), (17, .aload_n 0), (18, .getfield 9), (21, .iload_n 1), (22, .iconst 1), (23, .bastore), (24, .aload_n 0), (25, .getfield 15), (28, .iload_n 1), (29, .iload_n 2), (30, .iastore), (31, .iconst 0), (32, .istore_n 3), (33, .iload_n 3), (34, .iload_n 2), (35, .if_icmp .ge 21), (38, .aload_n 0), (39, .getfield 19), (42, .iload_n 1), (43, .bipush 40), (45, .imul), (46, .iload_n 3), (47, .iadd), (48, .iconst 0), (49, .iastore), (50, .iinc 3 1), (53, .goto (-20)), (56, .return_)]
set_option maxRecDepth 20000 in
theorem tb_e117 : ∀ q ∈ tb_d117, decode prog_10_method_3_code q.1 = .ok (q.2, mm_ln q.2) := by decide +kernel
-- 118 IndexedCompiler$Slots.isRowAt(I)Z
def tb_d118 : List (Nat × Instr) := [(0, .iload_n 1), (1, .invokestatic 25), (4, .ifCond .eq 16), (7, .aload_n 0), (8, .getfield 9), (11, .iload_n 1), (12, .baload), (13, .ifCond .eq 7), (16, .iconst 1), (17, .goto 4), (20, .iconst 0), (21, .ireturn)]
set_option maxRecDepth 20000 in
theorem tb_e118 : ∀ q ∈ tb_d118, decode prog_10_method_4_code q.1 = .ok (q.2, mm_ln q.2) := by decide +kernel
-- 119 IndexedCompiler$Slots.has(II)Z
def tb_d119 : List (Nat × Instr) := [(0, .aload_n 0), (1, .iload_n 1), (2, .invokevirtual 29), (5, .ifCond .eq 27), (8, .iload_n 2), (9, .ifCond .lt 23), (12, .iload_n 2), (13, .aload_n 0), (14, .getfield 15), (17, .iload_n 1), (18, .iaload), (19, .if_icmp .ge 13), (22, .iload_n 2), (23, .bipush 40), (25, .if_icmp .ge 7), (28, .iconst 1), (29, .goto 4), (32, .iconst 0), (33, .ireturn)]
set_option maxRecDepth 20000 in
theorem tb_e119 : ∀ q ∈ tb_d119, decode prog_10_method_5_code q.1 = .ok (q.2, mm_ln q.2) := by decide +kernel
-- 120 IndexedCompiler$Slots.size(I)I
def tb_d120 : List (Nat × Instr) := [(0, .iload_n 1), (1, .invokestatic 25), (4, .ifCond .eq 12), (7, .aload_n 0), (8, .getfield 15), (11, .iload_n 1), (12, .iaload), (13, .goto 4), (16, .iconst 0), (17, .ireturn)]
set_option maxRecDepth 20000 in
theorem tb_e120 : ∀ q ∈ tb_d120, decode prog_10_method_6_code q.1 = .ok (q.2, mm_ln q.2) := by decide +kernel
-- 121 IndexedCompiler$Slots.cell(II)I
def tb_d121 : List (Nat × Instr) := [(0, .aload_n 0), (1, .iload_n 1), (2, .iload_n 2), (3, .invokevirtual 32), (6, .ifCond .eq 17), (9, .aload_n 0), (10, .getfield 19), (13, .iload_n 1), (14, .bipush 40), (16, .imul), (17, .iload_n 2), (18, .iadd), (19, .iaload), (20, .goto 4), (23, .iconst 0), (24, .ireturn)]
set_option maxRecDepth 20000 in
theorem tb_e121 : ∀ q ∈ tb_d121, decode prog_10_method_7_code q.1 = .ok (q.2, mm_ln q.2) := by decide +kernel
-- 122 IndexedCompiler$Slots.change(III)V
def tb_d122 : List (Nat × Instr) := [(0, .aload_n 0), (1, .iload_n 1), (2, .iload_n 2), (3, .invokevirtual 32), (6, .ifCond .eq 15), (9, .aload_n 0), (10, .getfield 19), (13, .iload_n 1), (14, .bipush 40), (16, .imul), (17, .iload_n 2), (18, .iadd), (19, .iload_n 3), (20, .iastore), (21, .return_)]
set_option maxRecDepth 20000 in
theorem tb_e122 : ∀ q ∈ tb_d122, decode prog_10_method_8_code q.1 = .ok (q.2, mm_ln q.2) := by decide +kernel
-- 123 IndexedCompiler$Slots.exchange(II)I
def tb_d123 : List (Nat × Instr) := [(0, .iload_n 1), (1, .ifCond .lt 8), (4, .iload_n 1), (5, .iconst 4), (6, .if_icmp .lt 5), (9, .iconst 0), (10, .ireturn), (11, .aload_n 0), (12, .getfield 22), (15, .iload_n 1), (16, .iaload), (17, .istore_n 3), (18, .aload_n 0), (19, .getfield 22), (22, .iload_n 1), (23, .iload_n 2), (24, .iastore), (25, .iload_n 3), (26, .ireturn)]
set_option maxRecDepth 20000 in
theorem tb_e123 : ∀ q ∈ tb_d123, decode prog_10_method_9_code q.1 = .ok (q.2, mm_ln q.2) := by decide +kernel
-- 124 IndexedCompiler$Machine.<init>()V
def tb_d124 : List (Nat × Instr) := [(0, .aload_n 0), (1, .invokespecial 5), (4, .aload_n 0), (5, .sipush 600), (8, .newarray .int), (10, .putfield 13), (13, .aload_n 0), (14, .sipush 200), (17, .newarray .int), (19, .putfield 17), (22, .aload_n 0), (23, .sipush 600), (26, .newarray .int), (28, .putfield 20), (31, .aload_n 0), (32, .bipush 60), (34, .newarray .int), (36, .putfield 23), (39, .aload_n 0), (40, .bipush 60), (42, .newarray .int), (44, .putfield 26), (47, .aload_n 0), (48, .bipush 100), (50, .newarray .int), (52, .putfield 29), (55, .aload_n 0), (56, .bipush 8), (58, .newarray .int), (60, .putfield 32), (63, .aload_n 0), (64, .iconst (-1)), (65, .putfield 35), (68, .aload_n 0), (69, .aconst_null), (70, .putfield 39), (73, .return_)]
set_option maxRecDepth 20000 in
theorem tb_e124 : ∀ q ∈ tb_d124, decode prog_7_method_1_code q.1 = .ok (q.2, mm_ln q.2) := by decide +kernel
-- 125 IndexedCompiler$Machine.report(I)I
def tb_d125 : List (Nat × Instr) := [(0, .iload_n 1), (1, .ifCond .lt 18), (4, .iload_n 1), (5, .bipush 8), (7, .if_icmp .ge 12), (10, .aload_n 0), (11, .getfield 32), (14, .iload_n 1), (15, .iaload), (16, .goto 4), (19, .iconst 0), (20, .ireturn)]
set_option maxRecDepth 20000 in
theorem tb_e125 : ∀ q ∈ tb_d125, decode prog_7_method_2_code q.1 = .ok (q.2, mm_ln q.2) := by decide +kernel
-- 126 IndexedCompiler$Machine.print(I)I
def tb_d126 : List (Nat × Instr) := [(0, .iload_n 1), (1, .ifCond .lt 28), (4, .iload_n 1), (5, .bipush 100), (7, .if_icmp .ge 22), (10, .iload_n 1), (11, .aload_n 0), (12, .getfield 32), (15, .iconst 5), (16, .iaload), (17, .if_icmp .ge 12), (20, .aload_n 0), (21, .getfield 29), (24, .iload_n 1), (25, .iaload), (26, .goto 4), (29, .iconst (-1)), (30, .ireturn)]
set_option maxRecDepth 20000 in
theorem tb_e126 : ∀ q ∈ tb_d126, decode prog_7_method_3_code q.1 = .ok (q.2, mm_ln q.2) := by decide +kernel
-- 127 IndexedCompiler$Machine.answered(I)I
def tb_d127 : List (Nat × Instr) := [(0, .aload_n 0), (1, .getfield 35), (4, .ifCond .lt 19), (7, .iload_n 1), (8, .ifCond .lt 15), (11, .iload_n 1), (12, .aload_n 0), (13, .aload_n 0), (14, .getfield 35), (17, .invokevirtual 43), (20, .if_icmp .lt 5), (23, .iconst (-1)), (24, .ireturn), (25, .aload_n 0), (26, .aload_n 0), (27, .getfield 35), (30, .iconst 1), (31, .iadd), (32, .iload_n 1), (33, .iadd), (34, .invokevirtual 47), (37, .ireturn)]
set_option maxRecDepth 20000 in
theorem tb_e127 : ∀ q ∈ tb_d127, decode prog_7_method_4_code q.1 = .ok (q.2, mm_ln q.2) := by decide +kernel
-- 128 IndexedCompiler$Tree.<init>()V
def tb_d128 : List (Nat × Instr) := [(0, .aload_n 0), (1, .invokespecial 3), (4, .aload_n 0), (5, .sipush 4500), (8, .newarray .int), (10, .putfield 11), (13, .aload_n 0), (14, .iconst 1), (15, .putfield 15), (18, .return_)]
set_option maxRecDepth 20000 in
theorem tb_e128 : ∀ q ∈ tb_d128, decode prog_12_method_1_code q.1 = .ok (q.2, mm_ln q.2) := by decide +kernel
-- 129 IndexedCompiler$Tree.empty()V
def tb_d129 : List (Nat × Instr) := [(0, .aload_n 0), (1, .iconst 1), (2, .putfield 15), (5, .aload_n 0), (6, .iconst 0), (7, .putfield 19), (10, .aload_n 0), (11, .iconst 0), (12, .putfield 22), (15, .aload_n 0), (16, .iconst 0), (17, .putfield 25), (20, .aload_n 0), (21, .iconst 0), (22, .putfield 28), (25, .aload_n 0), (26, .iconst 0), (27, .putfield 31), (30, .aload_n 0), (31, .iconst 0), (32, .putfield 34), (35, .aload_n 0), (36, .iconst 0), (37, .putfield 37), (40, .aload_n 0), (41, .iconst 0), (42, .putfield 40), (45, .aload_n 0), (46, .iconst 0), (47, .putfield 43), (50, .return_)]
set_option maxRecDepth 20000 in
theorem tb_e129 : ∀ q ∈ tb_d129, decode prog_12_method_2_code q.1 = .ok (q.2, mm_ln q.2) := by decide +kernel
-- 130 java/lang/Math.max(II)I
def tb_d130 : List (Nat × Instr) := [(0, .iload_n 0), (1, .iload_n 1), (2, .if_icmp .lt 7), (5, .iload_n 0), (6, .goto 4), (9, .iload_n 1), (10, .ireturn)]
set_option maxRecDepth 20000 in
theorem tb_e130 : ∀ q ∈ tb_d130, decode prog_19_method_65_code q.1 = .ok (q.2, mm_ln q.2) := by decide +kernel
-- 131 java/lang/Math.min(II)I
def tb_d131 : List (Nat × Instr) := [(0, .iload_n 0), (1, .iload_n 1), (2, .if_icmp .gt 7), (5, .iload_n 0), (6, .goto 4), (9, .iload_n 1), (10, .ireturn)]
set_option maxRecDepth 20000 in
theorem tb_e131 : ∀ q ∈ tb_d131, decode prog_19_method_69_code q.1 = .ok (q.2, mm_ln q.2) := by decide +kernel
-- 132 java/lang/Math.abs(J)J
def tb_d132 : List (Nat × Instr) := [(0, .lload_n 0), (1, .lconst 0), (2, .lcmp), (3, .ifCond .ge 8), (6, .lload_n 0), (7, .lneg), (8, .goto 4), (11, .lload_n 0), (12, .lreturn)]
set_option maxRecDepth 20000 in
theorem tb_e132 : ∀ q ∈ tb_d132, decode prog_19_method_61_code q.1 = .ok (q.2, mm_ln q.2) := by decide +kernel
-- 133 java/lang/Math.floorDiv(JJ)J
def tb_d133 : List (Nat × Instr) := [(0, .lload_n 0), (1, .lload_n 2), (2, .ldiv), (3, .lstore 4), (5, .lload_n 0), (6, .lload_n 2), (7, .lxor), (8, .lconst 0), (9, .lcmp), (10, .ifCond .ge 17), (13, .lload 4), (15, .lload_n 2), (16, .lmul), (17, .lload_n 0), (18, .lcmp), (19, .ifCond .eq 8), (22, .lload 4), (24, .lconst 1), (25, .lsub), (26, .lreturn), (27, .lload 4), (29, .lreturn)]
set_option maxRecDepth 20000 in
theorem tb_e133 : ∀ q ∈ tb_d133, decode prog_19_method_49_code q.1 = .ok (q.2, mm_ln q.2) := by decide +kernel
-- 134 java/lang/Math.min(JJ)J
def tb_d134 : List (Nat × Instr) := [(0, .lload_n 0), (1, .lload_n 2), (2, .lcmp), (3, .ifCond .gt 7), (6, .lload_n 0), (7, .goto 4), (10, .lload_n 2), (11, .lreturn)]
set_option maxRecDepth 20000 in
theorem tb_e134 : ∀ q ∈ tb_d134, decode prog_19_method_70_code q.1 = .ok (q.2, mm_ln q.2) := by decide +kernel
-- 135 java/util/Arrays.fill([JJ)V
def tb_d135 : List (Nat × Instr) := [(0, .iconst 0), (1, .istore_n 3), (2, .aload_n 0), (3, .arraylength), (4, .istore 4), (6, .iload_n 3), (7, .iload 4), (9, .if_icmp .ge 13), (12, .aload_n 0), (13, .iload_n 3), (14, .lload_n 1), (15, .lastore), (16, .iinc 3 1), (19, .goto (-13)), (22, .return_)]
set_option maxRecDepth 20000 in
theorem tb_e135 : ∀ q ∈ tb_d135, decode prog_26_method_101_code q.1 = .ok (q.2, mm_ln q.2) := by decide +kernel
end
section
/-! THE BUNDLE. -/
def tb_KX : List (ByteArray × List (Nat × Instr)) := [(code, tb_d0), (method_3_code, tb_d1), (method_4_code, tb_d2), (method_5_code, tb_d3), (method_6_code, tb_d4), (method_7_code, tb_d5), (method_8_code, tb_d6), (method_9_code, tb_d7), (method_10_code, tb_d8), (method_11_code, tb_d9), (method_12_code, tb_d10), (method_13_code, tb_d11), (method_14_code, tb_d12), (method_15_code, tb_d13), (prog_14_method_1_code, tb_d14), (prog_14_method_2_code, tb_d15), (prog_14_method_3_code, tb_d16), (prog_14_method_4_code, tb_d17), (prog_14_method_5_code, tb_d18), (prog_14_method_6_code, tb_d19), (prog_14_method_7_code, tb_d20), (prog_14_method_12_code, tb_d21), (prog_14_method_14_code, tb_d22), (prog_14_method_15_code, tb_d23), (prog_14_method_16_code, tb_d24), (prog_14_method_17_code, tb_d25), (prog_14_method_18_code, tb_d26), (prog_14_method_19_code, tb_d27), (prog_14_method_20_code, tb_d28), (prog_14_method_32_code, tb_d29), (prog_14_method_45_code, tb_d30), (prog_14_method_46_code, tb_d31), (prog_14_method_47_code, tb_d32), (prog_14_method_48_code, tb_d33), (prog_14_method_101_code, tb_d34), (prog_14_method_102_code, tb_d35), (prog_14_method_103_code, tb_d36), (prog_14_method_115_code, tb_d37), (prog_14_method_113_code, tb_d38), (prog_14_method_116_code, tb_d39), (prog_14_method_117_code, tb_d40), (prog_14_method_118_code, tb_d41), (prog_14_method_119_code, tb_d42), (prog_14_method_120_code, tb_d43), (prog_14_method_121_code, tb_d44), (prog_14_method_122_code, tb_d45), (prog_14_method_123_code, tb_d46), (prog_14_method_136_code, tb_d47), (prog_14_method_137_code, tb_d48), (prog_14_method_138_code, tb_d49), (prog_14_method_139_code, tb_d50), (prog_14_method_140_code, tb_d51), (prog_14_method_141_code, tb_d52), (prog_14_method_142_code, tb_d53), (prog_14_method_143_code, tb_d54), (prog_14_method_68_code, tb_d55), (prog_14_method_69_code, tb_d56), (prog_14_method_70_code, tb_d57), (prog_14_method_71_code, tb_d58), (prog_14_method_72_code, tb_d59), (prog_1_method_1_code, tb_d60), (prog_1_method_2_code, tb_d61), (prog_1_method_3_code, tb_d62), (prog_1_method_4_code, tb_d63), (prog_1_method_5_code, tb_d64), (prog_1_method_6_code, tb_d65), (prog_1_method_7_code, tb_d66), (prog_1_method_8_code, tb_d67), (prog_1_method_9_code, tb_d68), (prog_1_method_10_code, tb_d69), (prog_1_method_11_code, tb_d70), (prog_1_method_12_code, tb_d71), (prog_1_method_13_code, tb_d72), (prog_1_method_14_code, tb_d73), (prog_1_method_15_code, tb_d74), (prog_1_method_16_code, tb_d75), (prog_1_method_17_code, tb_d76), (prog_1_method_18_code, tb_d77), (prog_1_method_19_code, tb_d78), (prog_1_method_20_code, tb_d79), (prog_1_method_21_code, tb_d80), (prog_1_method_22_code, tb_d81), (prog_1_method_23_code, tb_d82), (prog_1_method_24_code, tb_d83), (prog_1_method_25_code, tb_d84), (prog_1_method_26_code, tb_d85), (prog_1_method_27_code, tb_d86), (prog_1_method_28_code, tb_d87), (prog_6_method_1_code, tb_d88), (prog_6_method_2_code, tb_d89), (prog_6_method_3_code, tb_d90), (prog_6_method_4_code, tb_d91), (prog_6_method_6_code, tb_d92), (prog_6_method_8_code, tb_d93), (prog_8_method_1_code, tb_d94), (prog_8_method_2_code, tb_d95), (prog_8_method_26_code, tb_d96), (prog_8_method_30_code, tb_d97), (prog_11_method_1_code, tb_d98), (prog_11_method_2_code, tb_d99), (prog_11_method_3_code, tb_d100), (prog_11_method_4_code, tb_d101), (prog_4_method_1_code, tb_d102), (prog_4_method_2_code, tb_d103), (prog_4_method_5_code, tb_d104), (prog_5_method_1_code, tb_d105), (prog_5_method_2_code, tb_d106), (prog_5_method_6_code, tb_d107), (prog_5_method_11_code, tb_d108), (prog_2_method_1_code, tb_d109), (prog_2_method_2_code, tb_d110), (prog_2_method_3_code, tb_d111), (prog_2_method_5_code, tb_d112), (prog_3_method_1_code, tb_d113), (prog_3_method_2_code, tb_d114), (prog_10_method_1_code, tb_d115), (prog_10_method_2_code, tb_d116), (prog_10_method_3_code, tb_d117), (prog_10_method_4_code, tb_d118), (prog_10_method_5_code, tb_d119), (prog_10_method_6_code, tb_d120), (prog_10_method_7_code, tb_d121), (prog_10_method_8_code, tb_d122), (prog_10_method_9_code, tb_d123), (prog_7_method_1_code, tb_d124), (prog_7_method_2_code, tb_d125), (prog_7_method_3_code, tb_d126), (prog_7_method_4_code, tb_d127), (prog_12_method_1_code, tb_d128), (prog_12_method_2_code, tb_d129), (prog_19_method_65_code, tb_d130), (prog_19_method_69_code, tb_d131), (prog_19_method_61_code, tb_d132), (prog_19_method_49_code, tb_d133), (prog_19_method_70_code, tb_d134), (prog_26_method_101_code, tb_d135)]
def tb_kd (k : Nat) : List (Nat × Instr) := match tb_KX[k]? with | some q => q.2 | none => []
def tb_kb (k : Nat) : ByteArray := match tb_KX[k]? with | some q => q.1 | none => ⟨#[]⟩
def tb_KY : List MethodName := [⟨"IndexedCompilerLaw", "law", "([I)Z"⟩, ⟨"IndexedCompilerLaw", "type", "(LIndexedCompiler;IIIII[J)I"⟩, ⟨"IndexedCompilerLaw", "count", "(LIndexedCompiler;I[J)I"⟩, ⟨"IndexedCompilerLaw", "goal", "(LIndexedCompiler;II[J)I"⟩, ⟨"IndexedCompilerLaw", "code", "(LIndexedCompiler;III[J)I"⟩, ⟨"IndexedCompilerLaw", "set", "(LIndexedCompiler;II)I"⟩, ⟨"IndexedCompilerLaw", "make", "(LIndexedCompiler;II)I"⟩, ⟨"IndexedCompilerLaw", "put", "(LIndexedCompiler;III)I"⟩, ⟨"IndexedCompilerLaw", "get", "(LIndexedCompiler;II[J)I"⟩, ⟨"IndexedCompilerLaw", "value", "(LIndexedCompiler;II[J)I"⟩, ⟨"IndexedCompilerLaw", "run", "(LIndexedCompiler;III[J)I"⟩, ⟨"IndexedCompilerLaw", "told", "(LIndexedCompiler;I[J)I"⟩, ⟨"IndexedCompilerLaw", "fact", "(LIndexedCompiler;IIII[J)I"⟩, ⟨"IndexedCompilerLaw", "ask", "(LIndexedCompiler;IIII[J)I"⟩, ⟨"IndexedCompilerModel", "<init>", "()V"⟩, ⟨"IndexedCompilerModel", "thrown", "()I"⟩, ⟨"IndexedCompilerModel", "refused", "(I)Z"⟩, ⟨"IndexedCompilerModel", "isIn", "(JJJ)Z"⟩, ⟨"IndexedCompilerModel", "put", "(II)V"⟩, ⟨"IndexedCompilerModel", "type", "(IIIII)I"⟩, ⟨"IndexedCompilerModel", "erase", "()I"⟩, ⟨"IndexedCompilerModel", "tokens", "()V"⟩, ⟨"IndexedCompilerModel", "wrong", "()V"⟩, ⟨"IndexedCompilerModel", "isMarkHere", "(I)Z"⟩, ⟨"IndexedCompilerModel", "isWordHere", "(I)Z"⟩, ⟨"IndexedCompilerModel", "isNameHere", "()Z"⟩, ⟨"IndexedCompilerModel", "wantMark", "(I)V"⟩, ⟨"IndexedCompilerModel", "wantWord", "(I)V"⟩, ⟨"IndexedCompilerModel", "wantName", "()I"⟩, ⟨"IndexedCompilerModel", "readFunction", "(I)Z"⟩, ⟨"IndexedCompilerModel", "define", "()I"⟩, ⟨"IndexedCompilerModel", "clear", "()I"⟩, ⟨"IndexedCompilerModel", "uncheck", "()V"⟩, ⟨"IndexedCompilerModel", "place", "()I"⟩, ⟨"IndexedCompilerModel", "check", "()I"⟩, ⟨"IndexedCompilerModel", "count", "(I)I"⟩, ⟨"IndexedCompilerModel", "goal", "(II)I"⟩, ⟨"IndexedCompilerModel", "code", "(III)I"⟩, ⟨"IndexedCompilerModel", "isRunnable", "(I)Z"⟩, ⟨"IndexedCompilerModel", "isNumber", "(I)Z"⟩, ⟨"IndexedCompilerModel", "isSlot", "(I)Z"⟩, ⟨"IndexedCompilerModel", "set", "(II)V"⟩, ⟨"IndexedCompilerModel", "make", "(II)V"⟩, ⟨"IndexedCompilerModel", "hasNumber", "(II)Z"⟩, ⟨"IndexedCompilerModel", "put", "(III)V"⟩, ⟨"IndexedCompilerModel", "get", "(II)I"⟩, ⟨"IndexedCompilerModel", "value", "(II)I"⟩, ⟨"IndexedCompilerModel", "run", "(III)I"⟩, ⟨"IndexedCompilerModel", "told", "(I)I"⟩, ⟨"IndexedCompilerModel", "printed", "(IZ)I"⟩, ⟨"IndexedCompilerModel", "isDesk", "(IIII)Z"⟩, ⟨"IndexedCompilerModel", "putDesk", "([JIIIII)V"⟩, ⟨"IndexedCompilerModel", "fact", "(IIII)I"⟩, ⟨"IndexedCompilerModel", "ask", "(IIII)Z"⟩, ⟨"IndexedCompilerModel", "forget", "()I"⟩, ⟨"IndexedCompilerModel", "gcd", "(JJ)J"⟩, ⟨"IndexedCompilerModel", "keep", "()Z"⟩, ⟨"IndexedCompilerModel", "without", "(I)Z"⟩, ⟨"IndexedCompilerModel", "takeFresh", "()V"⟩, ⟨"IndexedCompilerModel", "isProved", "([JI)Z"⟩, ⟨"IndexedCompiler", "<init>", "()V"⟩, ⟨"IndexedCompiler", "type", "(IIIII)I"⟩, ⟨"IndexedCompiler", "erase", "()I"⟩, ⟨"IndexedCompiler", "define", "()I"⟩, ⟨"IndexedCompiler", "clear", "()I"⟩, ⟨"IndexedCompiler", "check", "()I"⟩, ⟨"IndexedCompiler", "place", "()I"⟩, ⟨"IndexedCompiler", "count", "(I)I"⟩, ⟨"IndexedCompiler", "goal", "(II)I"⟩, ⟨"IndexedCompiler", "code", "(III)I"⟩, ⟨"IndexedCompiler", "set", "(II)V"⟩, ⟨"IndexedCompiler", "make", "(II)V"⟩, ⟨"IndexedCompiler", "put", "(III)V"⟩, ⟨"IndexedCompiler", "get", "(II)I"⟩, ⟨"IndexedCompiler", "value", "(II)I"⟩, ⟨"IndexedCompiler", "run", "(III)I"⟩, ⟨"IndexedCompiler", "told", "(I)I"⟩, ⟨"IndexedCompiler", "printed", "(IZ)I"⟩, ⟨"IndexedCompiler", "fact", "(IIII)I"⟩, ⟨"IndexedCompiler", "ask", "(IIII)Z"⟩, ⟨"IndexedCompiler", "forget", "()I"⟩, ⟨"IndexedCompiler", "isSlot", "(I)Z"⟩, ⟨"IndexedCompiler", "isNumber", "(I)Z"⟩, ⟨"IndexedCompiler", "isDeskExpression", "(IIII)Z"⟩, ⟨"IndexedCompiler", "within", "(II)Z"⟩, ⟨"IndexedCompiler", "bytesIn", "(I)I"⟩, ⟨"IndexedCompiler", "canRun", "(I)Z"⟩, ⟨"IndexedCompiler", "treeFor", "(I)LIndexedCompiler$Tree;"⟩, ⟨"IndexedCompiler$Line", "<init>", "()V"⟩, ⟨"IndexedCompiler$Line", "append", "(I)V"⟩, ⟨"IndexedCompiler$Line", "split", "()V"⟩, ⟨"IndexedCompiler$Line", "advance", "()V"⟩, ⟨"IndexedCompiler$Line", "isWord", "(I)Z"⟩, ⟨"IndexedCompiler$Line", "note", "(III)V"⟩, ⟨"IndexedCompiler$Reader", "<init>", "()V"⟩, ⟨"IndexedCompiler$Reader", "read", "(LIndexedCompiler$Line;LIndexedCompiler$Tree;)Z"⟩, ⟨"IndexedCompiler$Reader", "takeWord", "(I)V"⟩, ⟨"IndexedCompiler$Reader", "refuse", "()V"⟩, ⟨"IndexedCompiler$Solver", "<init>", "()V"⟩, ⟨"IndexedCompiler$Solver", "proves", "([JIILIndexedCompiler$Expression;)Z"⟩, ⟨"IndexedCompiler$Solver", "takeAway", "(I)V"⟩, ⟨"IndexedCompiler$Solver", "keepWork", "()V"⟩, ⟨"IndexedCompiler$Expression", "<init>", "()V"⟩, ⟨"IndexedCompiler$Expression", "becomeNumber", "(J)V"⟩, ⟨"IndexedCompiler$Expression", "becomeDesk", "(IIII)V"⟩, ⟨"IndexedCompiler$Ground", "<init>", "(II)V"⟩, ⟨"IndexedCompiler$Ground", "begin", "()V"⟩, ⟨"IndexedCompiler$Ground", "addFact", "(LIndexedCompiler$Expression;I)V"⟩, ⟨"IndexedCompiler$Ground", "proves", "(LIndexedCompiler$Expression;)Z"⟩, ⟨"IndexedCompiler$Checker", "<init>", "()V"⟩, ⟨"IndexedCompiler$Checker", "judge", "([LIndexedCompiler$Tree;I)I"⟩, ⟨"IndexedCompiler$Checker", "faultPlace", "()I"⟩, ⟨"IndexedCompiler$Checker", "tally", "(I)I"⟩, ⟨"IndexedCompiler$Coder", "<init>", "()V"⟩, ⟨"IndexedCompiler$Coder", "compile", "([LIndexedCompiler$Tree;I)V"⟩, ⟨"IndexedCompiler$Slots", "<init>", "()V"⟩, ⟨"IndexedCompiler$Slots", "becomeNumber", "(II)V"⟩, ⟨"IndexedCompiler$Slots", "becomeRow", "(II)V"⟩, ⟨"IndexedCompiler$Slots", "isRowAt", "(I)Z"⟩, ⟨"IndexedCompiler$Slots", "has", "(II)Z"⟩, ⟨"IndexedCompiler$Slots", "size", "(I)I"⟩, ⟨"IndexedCompiler$Slots", "cell", "(II)I"⟩, ⟨"IndexedCompiler$Slots", "change", "(III)V"⟩, ⟨"IndexedCompiler$Slots", "exchange", "(II)I"⟩, ⟨"IndexedCompiler$Machine", "<init>", "()V"⟩, ⟨"IndexedCompiler$Machine", "report", "(I)I"⟩, ⟨"IndexedCompiler$Machine", "print", "(I)I"⟩, ⟨"IndexedCompiler$Machine", "answered", "(I)I"⟩, ⟨"IndexedCompiler$Tree", "<init>", "()V"⟩, ⟨"IndexedCompiler$Tree", "empty", "()V"⟩, ⟨"java/lang/Math", "max", "(II)I"⟩, ⟨"java/lang/Math", "min", "(II)I"⟩, ⟨"java/lang/Math", "abs", "(J)J"⟩, ⟨"java/lang/Math", "floorDiv", "(JJ)J"⟩, ⟨"java/lang/Math", "min", "(JJ)J"⟩, ⟨"java/util/Arrays", "fill", "([JJ)V"⟩]
def tb_ky (k : Nat) : MethodName := (tb_KY[k]?).getD ⟨"", "", ""⟩
def tb_KC : List Nat := [15, 15, 15, 15, 15, 15, 15, 15, 15, 15, 15, 15, 15, 15, 12, 12, 12, 12, 12, 12, 12, 12, 12, 12, 12, 12, 12, 12, 12, 12, 12, 12, 12, 12, 12, 12, 12, 12, 12, 12, 12, 12, 12, 12, 12, 12, 12, 12, 12, 12, 12, 12, 12, 12, 12, 12, 12, 12, 12, 12, 0, 0, 0, 0, 0, 0, 0, 0, 0, 0, 0, 0, 0, 0, 0, 0, 0, 0, 0, 0, 0, 0, 0, 0, 0, 0, 0, 0, 1, 1, 1, 1, 1, 1, 2, 2, 2, 2, 3, 3, 3, 3, 4, 4, 4, 5, 5, 5, 5, 6, 6, 6, 6, 7, 7, 8, 8, 8, 8, 8, 8, 8, 8, 8, 9, 9, 9, 9, 10, 10, 16, 16, 16, 16, 16, 17]
def tb_kc (k : Nat) : Nat := (tb_KC[k]?).getD 99
def tb_KL : List Nat := [7, 8, 4, 5, 6, 4, 4, 5, 5, 5, 6, 4, 7, 7, 1, 1, 2, 6, 4, 10, 2, 7, 1, 2, 2, 1, 2, 2, 1, 4, 2, 2, 1, 1, 2, 2, 3, 5, 2, 1, 1, 3, 4, 3, 5, 4, 4, 7, 2, 3, 4, 7, 5, 5, 2, 10, 6, 9, 2, 5, 1, 7, 2, 3, 2, 2, 1, 2, 3, 4, 3, 3, 4, 3, 3, 4, 2, 3, 5, 5, 2, 1, 1, 4, 2, 3, 2, 3, 1, 4, 3, 2, 2, 4, 1, 4, 2, 1, 1, 7, 13, 9, 1, 3, 5, 4, 1, 3, 2, 1, 4, 1, 2, 1, 4, 1, 3, 4, 2, 3, 2, 3, 4, 4, 1, 2, 2, 2, 1, 1, 2, 2, 2, 6, 4, 5]
def tb_kl (k : Nat) : Nat := (tb_KL[k]?).getD 0
def tb_KR : List (Option FieldType) := [(some .boolean), (some .int), (some .int), (some .int), (some .int), (some .int), (some .int), (some .int), (some .int), (some .int), (some .int), (some .int), (some .int), (some .int), none, (some .int), (some .boolean), (some .boolean), none, (some .int), (some .int), none, none, (some .boolean), (some .boolean), (some .boolean), none, none, (some .int), (some .boolean), (some .int), (some .int), none, (some .int), (some .int), (some .int), (some .int), (some .int), (some .boolean), (some .boolean), (some .boolean), none, none, (some .boolean), none, (some .int), (some .int), (some .int), (some .int), (some .int), (some .boolean), none, (some .int), (some .boolean), (some .int), (some .long), (some .boolean), (some .boolean), none, (some .boolean), none, (some .int), (some .int), (some .int), (some .int), (some .int), (some .int), (some .int), (some .int), (some .int), none, none, none, (some .int), (some .int), (some .int), (some .int), (some .int), (some .int), (some .boolean), (some .int), (some .boolean), (some .boolean), (some .boolean), (some .boolean), (some .int), (some .boolean), (some (.object "IndexedCompiler$Tree")), none, none, none, none, (some .boolean), none, none, (some .boolean), none, none, none, (some .boolean), none, none, none, none, none, none, none, none, (some .boolean), none, (some .int), (some .int), (some .int), none, none, none, none, none, (some .boolean), (some .boolean), (some .int), (some .int), none, (some .int), none, (some .int), (some .int), (some .int), none, none, (some .int), (some .int), (some .long), (some .long), (some .long), none]
def tb_kr (k : Nat) : Option FieldType := (tb_KR[k]?).getD none
def tb_KI : List Bool := [false, false, false, false, false, false, false, false, false, false, false, false, false, false, true, false, false, false, false, false, false, false, false, false, false, false, false, false, false, false, false, false, false, false, false, false, false, false, false, false, false, false, false, false, false, false, false, false, false, false, false, false, false, false, false, false, false, false, false, false, true, false, false, false, false, false, false, false, false, false, false, false, false, false, false, false, false, false, false, false, false, false, false, false, false, false, false, false, true, false, false, false, false, false, true, false, false, false, true, false, false, false, true, false, false, true, false, false, false, true, false, false, false, true, false, true, false, false, false, false, false, false, false, false, true, false, false, false, true, false, false, false, false, false, false, false]
def tb_ki (k : Nat) : Bool := (tb_KI[k]?).getD false
def tb_HS : List (List (Nat × Nat × Nat × Nat)) := [[], [(0, 16, 19, 13)], [(0, 9, 12, 19)], [(0, 10, 13, 19), (0, 10, 17, 13)], [(0, 12, 15, 19), (0, 12, 19, 13)], [(0, 6, 9, 19)], [(0, 6, 9, 19)], [(0, 7, 10, 19), (0, 7, 14, 13)], [(0, 10, 13, 19), (0, 10, 17, 13)], [(0, 10, 13, 19)], [(0, 12, 15, 19), (0, 12, 19, 13)], [(0, 9, 12, 19)], [(0, 14, 17, 19), (0, 14, 21, 13)], [(0, 21, 24, 19)], [], [], [], [], [], [], [], [], [], [], [], [], [], [], [], [], [], [], [], [], [], [], [], [], [], [], [], [], [], [], [], [], [], [], [], [], [], [], [], [], [], [], [], [], [], [], [], [], [], [], [], [], [], [], [], [], [], [], [], [], [], [], [], [], [], [], [], [], [], [], [], [], [], [], [], [], [], [], [], [], [], [(39, 164, 167, 82)], [], [], [], [], [], [], [], [], [], [], [], [], [], [], [(47, 143, 146, 96)], [], [], [], [], [], [], [], [], [], [], [], [], [], [], [], [], [], [], [], [], [], [], [], [], []]
def tb_hs (k : Nat) : List (Nat × Nat × Nat × Nat) := (tb_HS[k]?).getD []
def tb_XC : List (List (Nat × Nat)) := [[], [], [(82, 13)], [], [], [], [(96, 13)], [], [], [], [], [], [], [], [], [(13, 13), (19, 14)], [], []]
def tb_xc (k ct : Nat) : Option Nat := mm_fd2 tb_XC (tb_kc k) ct
def tb_XT : List (List (Nat × Nat)) := [[], [], [], [], [], [], [], [], [], [], [], [], [], [], [], [], [], [], [], [], [], [], [], [], [], [], [], [], [], [], [], [], [], [], [], [], [], [], [], [], [], [], [], [], [], [], [], [], [], [], [], [], [], [], [], [], [], [], [], [], [], [(44, 13)], [], [], [], [], [], [(9, 14)], [(9, 14), (42, 13)], [(13, 14), (31, 13)], [(14, 14)], [(17, 14)], [(14, 14), (36, 13)], [(7, 14), (43, 13)], [(16, 14)], [(21, 14), (39, 13)], [(10, 14)], [], [(11, 14), (33, 13)], [(11, 14)], [], [], [], [], [], [], [], [], [], [], [], [], [], [], [], [], [], [(11, 13)], [], [], [], [], [], [], [], [], [], [], [], [], [], [], [], [], [], [], [], [], [], [], [], [], [], [], [], [], [], [], [], [], [], [], [], [], [], []]
def tb_xt (k pc : Nat) : Option Nat := mm_fd2 tb_XT k pc
def tb_SB : List (String × Nat × String) := [("IndexedCompiler", 93, "the line would be too long"), ("IndexedCompiler", 131, "what is 0 to 5"), ("IndexedCompiler", 137, "no such goal"), ("IndexedCompiler", 143, "how is 0 or 1, k not below 0"), ("IndexedCompiler", 149, "not accepted, or no such function"), ("IndexedCompiler", 161, "no such slot, or no such number"), ("IndexedCompiler", 166, "no such slot, or no such length"), ("IndexedCompiler", 175, "no such number in the slot"), ("IndexedCompiler", 181, "no such slot"), ("IndexedCompiler", 189, "no such value, or no such number"), ("IndexedCompiler", 194, "how is 0 or 1, steps 1 to 20000"), ("IndexedCompiler", 204, "what is 0 to 7"), ("IndexedCompiler", 219, "a number is too great or too small"), ("IndexedCompiler", 224, "the desk is full"), ("IndexedCompiler$Reader", 186, "the line cannot go on so")]
def tb_FL : List (List (Nat × Nat × Nat)) := [[(10, 0, 0), (19, 0, 1), (25, 0, 2), (32, 0, 3), (39, 0, 4), (46, 0, 5), (53, 0, 6), (62, 0, 7), (69, 0, 8), (73, 0, 9), (77, 0, 10), (80, 0, 11), (88, 1, 1), (110, 2, 2), (221, 5, 7), (234, 5, 8), (247, 6, 14)], [(11, 1, 0), (15, 1, 1), (19, 1, 2), (23, 1, 3), (26, 1, 4), (29, 1, 5), (32, 1, 6), (35, 1, 7), (38, 1, 8), (41, 1, 9)], [(9, 2, 0), (15, 2, 1), (19, 2, 2), (37, 1, 8), (40, 10, 3), (47, 10, 2), (66, 10, 9), (73, 10, 10), (76, 1, 7)], [(13, 3, 0), (17, 3, 1), (20, 3, 2), (23, 3, 3), (27, 3, 4), (30, 3, 5), (34, 3, 6), (55, 4, 0)], [(9, 4, 0), (13, 4, 1)], [(12, 5, 0), (24, 5, 2), (28, 5, 1), (32, 5, 4), (35, 5, 3), (41, 5, 5), (46, 5, 6), (49, 5, 7), (52, 5, 8), (55, 5, 9), (58, 5, 10), (61, 5, 11), (65, 5, 12), (68, 5, 13), (82, 4, 0)], [(16, 6, 0), (20, 6, 1), (24, 6, 2), (30, 6, 5), (36, 6, 7), (40, 6, 9), (44, 6, 10), (47, 6, 4), (51, 6, 14), (64, 6, 3), (67, 6, 12), (70, 6, 13), (87, 10, 10), (98, 5, 9), (101, 5, 10), (104, 5, 12), (107, 5, 11), (110, 5, 13)], [(13, 7, 0), (19, 7, 1), (22, 7, 2), (25, 7, 3), (29, 7, 4), (33, 7, 5), (36, 7, 6), (40, 10, 10), (53, 10, 8), (56, 10, 9)], [(9, 8, 0), (15, 8, 1), (19, 8, 2), (22, 8, 3)], [(13, 9, 0), (17, 9, 1), (20, 9, 2), (23, 9, 3), (26, 9, 4), (29, 9, 5), (32, 9, 6), (35, 9, 12), (39, 9, 13)], [(11, 10, 0), (15, 10, 1), (19, 10, 2), (22, 10, 3), (25, 10, 4), (28, 10, 5), (31, 10, 6), (34, 10, 7), (37, 10, 8), (40, 10, 9), (43, 10, 10)], [], [(7, 12, 1), (13, 12, 3), (17, 12, 4), (20, 12, 5), (23, 12, 7), (27, 12, 11), (30, 12, 12), (33, 12, 13), (36, 12, 14), (39, 12, 15), (42, 12, 16), (45, 12, 17), (48, 12, 18), (51, 12, 19), (54, 12, 20), (57, 12, 22), (60, 12, 23), (63, 12, 24), (66, 12, 25), (69, 12, 26), (72, 12, 27), (75, 12, 28), (78, 12, 29), (82, 12, 31), (85, 12, 32), (88, 12, 33), (91, 12, 35), (94, 12, 36), (97, 12, 37), (100, 12, 39), (103, 12, 40), (106, 12, 41), (109, 12, 43), (112, 12, 44), (115, 12, 45), (118, 12, 46), (121, 12, 47), (124, 12, 49), (127, 12, 52), (130, 12, 53), (133, 12, 54), (136, 12, 55), (139, 12, 56), (142, 12, 57), (145, 12, 58), (148, 12, 59), (151, 12, 60), (154, 12, 66), (157, 12, 68), (160, 12, 69), (163, 12, 70), (166, 12, 71), (169, 12, 72), (172, 12, 73), (175, 12, 78), (179, 12, 80), (182, 12, 81), (185, 12, 82), (188, 12, 84), (191, 12, 85), (194, 12, 86), (197, 12, 87), (200, 12, 88), (203, 12, 89), (206, 12, 94), (209, 12, 95), (212, 12, 97), (215, 12, 99), (218, 12, 100), (221, 12, 103), (224, 12, 104), (227, 12, 105), (230, 12, 106), (233, 12, 107), (236, 12, 108), (239, 12, 109), (242, 12, 110), (245, 12, 111), (248, 12, 114), (251, 12, 115), (254, 12, 116), (257, 12, 117), (260, 12, 120), (263, 12, 121), (266, 12, 122), (269, 12, 123), (272, 12, 124), (275, 12, 125), (278, 12, 127), (281, 12, 130), (284, 12, 131), (287, 12, 132), (290, 12, 133), (293, 12, 137), (296, 12, 142), (299, 12, 144), (302, 12, 0), (305, 12, 2), (330, 12, 6), (333, 12, 8), (339, 12, 9), (358, 12, 21), (368, 12, 30), (371, 12, 34), (384, 12, 38), (387, 12, 42), (396, 12, 50), (412, 12, 48), (470, 12, 10), (479, 12, 62), (482, 12, 63), (485, 12, 64), (488, 12, 65), (491, 12, 67), (494, 12, 74), (520, 12, 79), (595, 12, 101), (598, 12, 98), (604, 12, 96), (619, 12, 112), (803, 12, 126), (812, 12, 134), (815, 12, 136), (818, 12, 138), (821, 12, 139), (824, 12, 140), (827, 12, 141), (864, 12, 135), (879, 12, 143)], [], [], [], [], []]
def tb_fl (o i : Nat) : Option (Nat × Nat) := mm_fd2 tb_FL o i
def tb_V0 : List Value := [.null, .null, .null, .null, .null, .null, .null, .null, .null, .int 0, .int 0, .int 0]
def tb_V1 : List Value := [.null, .int 0, .null, .null, .null, .int 0, .int 0, .int 0, .int 0, .int 0]
def tb_V2 : List Value := [.null, .null, .int 0]
def tb_V3 : List Value := [.null, .null, .null, .int 0, .int 0, .int 0, .int 0]
def tb_V4 : List Value := [.null, .int 0]
def tb_V5 : List Value := [.null, .null, .int 0, .null, .int 0, .null, .int 0, .int 0, .int 0, .int 0, .int 0, .int 0, .int 0, .int 0]
def tb_V6 : List Value := [.null, .null, .null, .int 0, .int 0, .null, .int 0, .null, .int 0, .null, .null, .int 0, .int 0, .int 0, .int 0]
def tb_V7 : List Value := [.null, .null, .null, .null, .null, .null, .int 0]
def tb_V8 : List Value := [.null, .null, .null, .null]
def tb_V9 : List Value := [.null, .null, .null, .null, .null, .null, .null, .int 0, .int 0, .int 0, .int 0, .int 0, .int 0, .null]
def tb_V10 : List Value := [.null, .int 0, .int 0, .int 0, .int 0, .int 0, .int 0, .int 0, .int 0, .int 0, .int 0]
def tb_V11 : List Value := [.int 0, .null, .int 0, .null, .null]
def tb_V12 : List Value := [.int 0, .null, .int 0, .null, .null, .null, .int 0, .int 0, .int 0, .int 0, .int 0, .null, .null, .null, .null, .null, .null, .null, .null, .null, .null, .int 0, .null, .null, .null, .null, .null, .null, .null, .null, .int 0, .null, .null, .null, .int 0, .null, .null, .null, .int 0, .null, .null, .null, .int 0, .null, .null, .null, .null, .null, .int 0, .null, .int 0, .int 0, .null, .null, .null, .null, .null, .null, .null, .null, .null, .int 0, .int 0, .int 0, .int 0, .int 0, .int 0, .int 0, .null, .null, .null, .null, .null, .null, .int 0, .int 0, .int 0, .int 0, .null, .int 0, .null, .null, .null, .int 0, .null, .null, .null, .null, .null, .null, .int 0, .int 0, .int 0, .long 0, .int 0, .int 0, .int 0, .null, .int 0, .null, .null, .int 0, .int 0, .null, .null, .null, .null, .null, .null, .null, .null, .null, .int 0, .int 0, .null, .null, .null, .null, .int 0, .int 0, .null, .null, .null, .null, .null, .null, .int 0, .null, .int 0, .int 0, .null, .null, .null, .null, .int 0, .int 0, .int 0, .int 0, .int 0, .int 0, .int 0, .int 0, .null, .int 0, .null]
def tb_NL : List (List (Nat × Nat × List Value)) := [[(7, 1, tb_V1), (16, 2, tb_V2), (23, 10, tb_V10), (29, 6, tb_V6), (36, 7, tb_V7), (43, 8, tb_V8), (50, 9, tb_V9), (57, 5, tb_V5), (66, 4, tb_V4)], [], [], [], [], [(9, 3, tb_V3), (39, 4, tb_V4)], [(9, 5, tb_V5)], [], [], [], [], [], [], [], [], [(8, 0, tb_V0), (61, 12, tb_V12)], [], []]
def tb_nl (o i : Nat) : Option (Nat × List Value) := mm_fd2 tb_NL o i
def tb_AL : List (List (Nat × Nat)) := [[(23, 4)], [], [], [], [], [(39, 5)], [(28, 5), (34, 6)], [(11, 7)], [], [], [], [], [], [], [], [], [], []]
def tb_al (o i : Nat) : Option Nat := mm_fd2 tb_AL o i
def tb_ML : List (List (Nat × Nat × Nat × Nat)) := [[(1, 0, 1, 3), (9, 88, 1, 2), (18, 94, 1, 2), (31, 109, 1, 2), (38, 113, 1, 2), (45, 115, 1, 2), (52, 124, 1, 2), (59, 105, 3, 2), (68, 102, 1, 2), (84, 85, 1, 0), (98, 89, 2, 1), (102, 87, 2, 1), (106, 95, 3, 1), (117, 110, 3, 1), (121, 111, 1, 1), (125, 114, 3, 1), (134, 112, 2, 1), (145, 86, 2, 1), (155, 81, 1, 0), (158, 82, 1, 0), (163, 116, 3, 1), (168, 117, 3, 1), (171, 119, 3, 1), (177, 122, 4, 1), (183, 120, 2, 1), (186, 121, 3, 1), (191, 123, 3, 1), (206, 125, 2, 1), (209, 127, 2, 1), (212, 126, 2, 1), (215, 83, 4, 0), (226, 104, 5, 1), (230, 107, 3, 1), (237, 108, 2, 1), (243, 84, 2, 0), (250, 131, 2, 0), (255, 130, 2, 0), (258, 128, 1, 2)], [(3, 0, 1, 3), (65, 93, 4, 1), (69, 91, 1, 1)], [(3, 0, 1, 3), (23, 129, 1, 1), (28, 90, 1, 1), (33, 96, 2, 1), (79, 97, 1, 1), (93, 91, 1, 1), (119, 92, 2, 1)], [(5, 0, 1, 3), (37, 131, 2, 0), (43, 130, 2, 0), (46, 0, 5, 4), (52, 101, 1, 1), (58, 100, 2, 1), (62, 132, 1, 0), (66, 133, 2, 0), (74, 134, 2, 0)], [(3, 0, 1, 3), (17, 135, 2, 0), (23, 103, 2, 1)], [(3, 0, 1, 3), (11, 98, 1, 2), (18, 130, 2, 0), (45, 102, 1, 2), (85, 0, 5, 4), (105, 99, 5, 1)], [(3, 0, 1, 3), (13, 105, 3, 2), (55, 130, 2, 0), (61, 131, 2, 0), (73, 106, 1, 1)], [(5, 0, 1, 3)], [(3, 0, 1, 3), (25, 81, 1, 5), (29, 118, 2, 1), (32, 119, 3, 1)], [(5, 0, 1, 3)], [(3, 0, 1, 3)], [], [(1, 0, 1, 3), (308, 18, 3, 1), (312, 16, 2, 1), (345, 23, 2, 1), (348, 22, 1, 1), (351, 24, 2, 1), (354, 25, 1, 1), (364, 28, 1, 1), (390, 26, 2, 1), (409, 21, 1, 1), (415, 27, 2, 1), (473, 29, 2, 1), (476, 32, 1, 1), (579, 59, 3, 1), (582, 55, 2, 0), (586, 133, 2, 0), (601, 134, 2, 0), (607, 56, 1, 1), (610, 58, 1, 1), (613, 57, 2, 1), (736, 17, 3, 0), (771, 38, 2, 1), (778, 40, 1, 0), (781, 39, 1, 0), (786, 43, 3, 1), (869, 131, 2, 0), (875, 50, 4, 0), (882, 51, 6, 0)], [], [], [(7, 61, 6, 1), (15, 67, 2, 1), (21, 68, 3, 1), (25, 69, 4, 1), (29, 70, 3, 1), (33, 71, 3, 1), (36, 72, 4, 1), (40, 73, 3, 1), (43, 74, 3, 1), (46, 75, 4, 1), (49, 76, 2, 1), (52, 78, 5, 1), (56, 79, 5, 1), (60, 60, 1, 2), (63, 14, 1, 2), (64, 1, 7, 0), (69, 19, 6, 1), (70, 15, 1, 1), (74, 62, 1, 1), (77, 20, 1, 1), (78, 63, 1, 1), (81, 30, 1, 1), (82, 64, 1, 1), (85, 31, 1, 1), (86, 65, 1, 1), (89, 34, 1, 1), (90, 66, 1, 1), (93, 33, 1, 1), (94, 2, 3, 0), (97, 35, 2, 1), (98, 3, 4, 0), (101, 36, 3, 1), (102, 4, 5, 0), (105, 37, 4, 1), (106, 5, 3, 0), (109, 41, 3, 1), (110, 6, 3, 0), (112, 42, 3, 1), (113, 7, 4, 0), (116, 44, 4, 1), (117, 8, 4, 0), (119, 45, 3, 1), (120, 9, 4, 0), (122, 46, 3, 1), (123, 10, 5, 0), (125, 47, 4, 1), (126, 11, 3, 0), (128, 48, 2, 1), (129, 77, 3, 1), (133, 49, 3, 1), (134, 12, 6, 0), (137, 52, 5, 1), (138, 13, 6, 0), (140, 53, 5, 1), (141, 80, 1, 1), (144, 54, 1, 1)], [], []]
def tb_ml (o i : Nat) : Option (Nat × Nat × Nat) := mm_fd2 tb_ML o i
def tb_CI : List (List (Nat × Int32)) := [[(241, -1000000000), (242, 1000000000), (246, 1000000)], [], [], [], [], [], [], [], [], [], [], [], [], [], [], [], [], []]
def tb_cI (o i : Nat) : Option Int32 := mm_fd2 tb_CI o i
def tb_CL : List (List (Nat × Int64)) := [[], [], [], [(70, 1000000000), (72, -1000000000)], [], [], [], [], [], [], [], [], [(509, 1000000), (511, -1000000), (591, 1000000000), (593, -1000000000), (734, 5), (784, 40), (789, 3), (853, 20000), (867, 7), (871, -1000), (873, 1000)], [], [], [], [], []]
def tb_cL (o i : Nat) : Option Int64 := mm_fd2 tb_CL o i
def tb_SW : List (List (Nat × Int × Nat × List Nat)) := [[(40, 0, 1194, [136, 240, 253, 266, 279, 292, 305, 361, 429, 509, 557, 605, 665, 733, 801, 881, 937, 990, 1082, 1181])], [], [], [], [], [], [], [], [], [], [], [], [], [], [], [], [], [], [], [], [], [], [], [], [], [], [], [], [], [], [], [], [], [], [], [(27, 0, 85, [60, 65, 70, 75, 80])], [(47, 0, 123, [80, 87, 94, 101, 116])], [], [], [], [], [], [], [], [], [], [], [], [(27, 0, 103, [68, 73, 78, 83, 88, 93, 98])], [], [], [], [], [], [], [], [], [], [], [], [], [], [], [], [], [], [], [], [], [], [], [], [], [], [], [], [], [], [], [], [], [], [], [], [], [], [], [], [], [], [], [], [], [], [], [], [], [], [], [], [], [], [], [], [], [], [], [], [], [], [], [], [(1, 1, 58, [32, 40, 48, 53])], [], [], [], [], [], [], [], [], [], [], [], [], [], [], [], [], [], [], [], [], [], [], []]
def tb_sw (k pc : Nat) : Option (Int × Nat × List Nat) := mm_fd2 tb_SW k pc
def tb_ec (t : Nat) : Option Nat := mm_fd [(4, 10), (5, 4), (6, 11)] t
def tb_P : mm_P := (tb_kc, tb_kd, tb_kl, tb_kr, tb_ki, mm_khf tb_hs tb_xc, tb_xt, tb_fl, tb_ft, tb_nl, tb_al, tb_ml, tb_cI, tb_cL, tb_sw, tb_ec, 600002, 7302232, 8)
def tb_X (ci : Nat) : Prop := ci = 13 ∨ ci = 14
end
section
/-! THE TABLES TELL THE TRUTH (cells). -/
set_option maxRecDepth 20000 in
theorem tb_fl_0 : mm_allL (fun q => (fun (o i : Nat) (v : Nat × Nat) => ∃ C T N, tb_cl[v.1]? = some (C, T, N) ∧ v.2 < N ∧ Cond.fieldLink (tb_cn o) i (T v.2).1 (T v.2).2.1 (T v.2).2.2.1 ∈ tb_TB) 0 q.1 q.2) ((tb_FL[0]?).getD []) := ⟨⟨_, _, _, rfl, by decide, (tb_i2 (List.mem_of_getElem? (i := 126) rfl) rfl)⟩,
  ⟨_, _, _, rfl, by decide, (tb_i2 (List.mem_of_getElem? (i := 127) rfl) rfl)⟩,
  ⟨_, _, _, rfl, by decide, (tb_i2 (List.mem_of_getElem? (i := 128) rfl) rfl)⟩,
  ⟨_, _, _, rfl, by decide, (tb_i2 (List.mem_of_getElem? (i := 129) rfl) rfl)⟩,
  ⟨_, _, _, rfl, by decide, (tb_i2 (List.mem_of_getElem? (i := 130) rfl) rfl)⟩,
  ⟨_, _, _, rfl, by decide, (tb_i2 (List.mem_of_getElem? (i := 131) rfl) rfl)⟩,
  ⟨_, _, _, rfl, by decide, (tb_i2 (List.mem_of_getElem? (i := 132) rfl) rfl)⟩,
  ⟨_, _, _, rfl, by decide, (tb_i2 (List.mem_of_getElem? (i := 133) rfl) rfl)⟩,
  ⟨_, _, _, rfl, by decide, (tb_i2 (List.mem_of_getElem? (i := 134) rfl) rfl)⟩,
  ⟨_, _, _, rfl, by decide, (tb_i2 (List.mem_of_getElem? (i := 135) rfl) rfl)⟩,
  ⟨_, _, _, rfl, by decide, (tb_i2 (List.mem_of_getElem? (i := 136) rfl) rfl)⟩,
  ⟨_, _, _, rfl, by decide, (tb_i2 (List.mem_of_getElem? (i := 137) rfl) rfl)⟩,
  ⟨_, _, _, rfl, by decide, (tb_i1 (List.mem_of_getElem? (i := 43) rfl) rfl)⟩,
  ⟨_, _, _, rfl, by decide, (tb_i1 (List.mem_of_getElem? (i := 87) rfl) rfl)⟩,
  ⟨_, _, _, rfl, by decide, (tb_i1 (List.mem_of_getElem? (i := 167) rfl) rfl)⟩,
  ⟨_, _, _, rfl, by decide, (tb_i1 (List.mem_of_getElem? (i := 170) rfl) rfl)⟩,
  ⟨_, _, _, rfl, by decide, (tb_i1 (List.mem_of_getElem? (i := 229) rfl) rfl)⟩,
  trivial⟩
set_option maxRecDepth 20000 in
theorem tb_fl_1 : mm_allL (fun q => (fun (o i : Nat) (v : Nat × Nat) => ∃ C T N, tb_cl[v.1]? = some (C, T, N) ∧ v.2 < N ∧ Cond.fieldLink (tb_cn o) i (T v.2).1 (T v.2).2.1 (T v.2).2.2.1 ∈ tb_TB) 1 q.1 q.2) ((tb_FL[1]?).getD []) := ⟨⟨_, _, _, rfl, by decide, (tb_i1 (List.mem_of_getElem? (i := 41) rfl) rfl)⟩,
  ⟨_, _, _, rfl, by decide, (tb_i1 (List.mem_of_getElem? (i := 42) rfl) rfl)⟩,
  ⟨_, _, _, rfl, by decide, (tb_i1 (List.mem_of_getElem? (i := 44) rfl) rfl)⟩,
  ⟨_, _, _, rfl, by decide, (tb_i1 (List.mem_of_getElem? (i := 45) rfl) rfl)⟩,
  ⟨_, _, _, rfl, by decide, (tb_i1 (List.mem_of_getElem? (i := 46) rfl) rfl)⟩,
  ⟨_, _, _, rfl, by decide, (tb_i1 (List.mem_of_getElem? (i := 47) rfl) rfl)⟩,
  ⟨_, _, _, rfl, by decide, (tb_i1 (List.mem_of_getElem? (i := 48) rfl) rfl)⟩,
  ⟨_, _, _, rfl, by decide, (tb_i1 (List.mem_of_getElem? (i := 49) rfl) rfl)⟩,
  ⟨_, _, _, rfl, by decide, (tb_i1 (List.mem_of_getElem? (i := 51) rfl) rfl)⟩,
  ⟨_, _, _, rfl, by decide, (tb_i1 (List.mem_of_getElem? (i := 53) rfl) rfl)⟩,
  trivial⟩
set_option maxRecDepth 20000 in
theorem tb_fl_2 : mm_allL (fun q => (fun (o i : Nat) (v : Nat × Nat) => ∃ C T N, tb_cl[v.1]? = some (C, T, N) ∧ v.2 < N ∧ Cond.fieldLink (tb_cn o) i (T v.2).1 (T v.2).2.1 (T v.2).2.2.1 ∈ tb_TB) 2 q.1 q.2) ((tb_FL[2]?).getD []) := ⟨⟨_, _, _, rfl, by decide, (tb_i1 (List.mem_of_getElem? (i := 84) rfl) rfl)⟩,
  ⟨_, _, _, rfl, by decide, (tb_i1 (List.mem_of_getElem? (i := 85) rfl) rfl)⟩,
  ⟨_, _, _, rfl, by decide, (tb_i1 (List.mem_of_getElem? (i := 86) rfl) rfl)⟩,
  ⟨_, _, _, rfl, by decide, (tb_i1 (List.mem_of_getElem? (i := 52) rfl) rfl)⟩,
  ⟨_, _, _, rfl, by decide, (tb_i2 (List.mem_of_getElem? (i := 191) rfl) rfl)⟩,
  ⟨_, _, _, rfl, by decide, (tb_i2 (List.mem_of_getElem? (i := 187) rfl) rfl)⟩,
  ⟨_, _, _, rfl, by decide, (tb_i2 (List.mem_of_getElem? (i := 215) rfl) rfl)⟩,
  ⟨_, _, _, rfl, by decide, (tb_i2 (List.mem_of_getElem? (i := 220) rfl) rfl)⟩,
  ⟨_, _, _, rfl, by decide, (tb_i1 (List.mem_of_getElem? (i := 50) rfl) rfl)⟩,
  trivial⟩
set_option maxRecDepth 20000 in
theorem tb_fl_3 : mm_allL (fun q => (fun (o i : Nat) (v : Nat × Nat) => ∃ C T N, tb_cl[v.1]? = some (C, T, N) ∧ v.2 < N ∧ Cond.fieldLink (tb_cn o) i (T v.2).1 (T v.2).2.1 (T v.2).2.2.1 ∈ tb_TB) 3 q.1 q.2) ((tb_FL[3]?).getD []) := ⟨⟨_, _, _, rfl, by decide, (tb_i1 (List.mem_of_getElem? (i := 115) rfl) rfl)⟩,
  ⟨_, _, _, rfl, by decide, (tb_i1 (List.mem_of_getElem? (i := 116) rfl) rfl)⟩,
  ⟨_, _, _, rfl, by decide, (tb_i1 (List.mem_of_getElem? (i := 117) rfl) rfl)⟩,
  ⟨_, _, _, rfl, by decide, (tb_i1 (List.mem_of_getElem? (i := 118) rfl) rfl)⟩,
  ⟨_, _, _, rfl, by decide, (tb_i1 (List.mem_of_getElem? (i := 119) rfl) rfl)⟩,
  ⟨_, _, _, rfl, by decide, (tb_i1 (List.mem_of_getElem? (i := 120) rfl) rfl)⟩,
  ⟨_, _, _, rfl, by decide, (tb_i1 (List.mem_of_getElem? (i := 121) rfl) rfl)⟩,
  ⟨_, _, _, rfl, by decide, (tb_i1 (List.mem_of_getElem? (i := 149) rfl) rfl)⟩,
  trivial⟩
set_option maxRecDepth 20000 in
theorem tb_fl_4 : mm_allL (fun q => (fun (o i : Nat) (v : Nat × Nat) => ∃ C T N, tb_cl[v.1]? = some (C, T, N) ∧ v.2 < N ∧ Cond.fieldLink (tb_cn o) i (T v.2).1 (T v.2).2.1 (T v.2).2.2.1 ∈ tb_TB) 4 q.1 q.2) ((tb_FL[4]?).getD []) := ⟨⟨_, _, _, rfl, by decide, (tb_i1 (List.mem_of_getElem? (i := 148) rfl) rfl)⟩,
  ⟨_, _, _, rfl, by decide, (tb_i1 (List.mem_of_getElem? (i := 152) rfl) rfl)⟩,
  trivial⟩
set_option maxRecDepth 20000 in
theorem tb_fl_5 : mm_allL (fun q => (fun (o i : Nat) (v : Nat × Nat) => ∃ C T N, tb_cl[v.1]? = some (C, T, N) ∧ v.2 < N ∧ Cond.fieldLink (tb_cn o) i (T v.2).1 (T v.2).2.1 (T v.2).2.2.1 ∈ tb_TB) 5 q.1 q.2) ((tb_FL[5]?).getD []) := ⟨⟨_, _, _, rfl, by decide, (tb_i1 (List.mem_of_getElem? (i := 159) rfl) rfl)⟩,
  ⟨_, _, _, rfl, by decide, (tb_i1 (List.mem_of_getElem? (i := 161) rfl) rfl)⟩,
  ⟨_, _, _, rfl, by decide, (tb_i1 (List.mem_of_getElem? (i := 160) rfl) rfl)⟩,
  ⟨_, _, _, rfl, by decide, (tb_i1 (List.mem_of_getElem? (i := 163) rfl) rfl)⟩,
  ⟨_, _, _, rfl, by decide, (tb_i1 (List.mem_of_getElem? (i := 162) rfl) rfl)⟩,
  ⟨_, _, _, rfl, by decide, (tb_i1 (List.mem_of_getElem? (i := 164) rfl) rfl)⟩,
  ⟨_, _, _, rfl, by decide, (tb_i1 (List.mem_of_getElem? (i := 165) rfl) rfl)⟩,
  ⟨_, _, _, rfl, by decide, (tb_i1 (List.mem_of_getElem? (i := 166) rfl) rfl)⟩,
  ⟨_, _, _, rfl, by decide, (tb_i1 (List.mem_of_getElem? (i := 169) rfl) rfl)⟩,
  ⟨_, _, _, rfl, by decide, (tb_i1 (List.mem_of_getElem? (i := 172) rfl) rfl)⟩,
  ⟨_, _, _, rfl, by decide, (tb_i1 (List.mem_of_getElem? (i := 174) rfl) rfl)⟩,
  ⟨_, _, _, rfl, by decide, (tb_i1 (List.mem_of_getElem? (i := 176) rfl) rfl)⟩,
  ⟨_, _, _, rfl, by decide, (tb_i1 (List.mem_of_getElem? (i := 178) rfl) rfl)⟩,
  ⟨_, _, _, rfl, by decide, (tb_i1 (List.mem_of_getElem? (i := 180) rfl) rfl)⟩,
  ⟨_, _, _, rfl, by decide, (tb_i1 (List.mem_of_getElem? (i := 150) rfl) rfl)⟩,
  trivial⟩
set_option maxRecDepth 20000 in
theorem tb_fl_6 : mm_allL (fun q => (fun (o i : Nat) (v : Nat × Nat) => ∃ C T N, tb_cl[v.1]? = some (C, T, N) ∧ v.2 < N ∧ Cond.fieldLink (tb_cn o) i (T v.2).1 (T v.2).2.1 (T v.2).2.2.1 ∈ tb_TB) 6 q.1 q.2) ((tb_FL[6]?).getD []) := ⟨⟨_, _, _, rfl, by decide, (tb_i1 (List.mem_of_getElem? (i := 214) rfl) rfl)⟩,
  ⟨_, _, _, rfl, by decide, (tb_i1 (List.mem_of_getElem? (i := 215) rfl) rfl)⟩,
  ⟨_, _, _, rfl, by decide, (tb_i1 (List.mem_of_getElem? (i := 216) rfl) rfl)⟩,
  ⟨_, _, _, rfl, by decide, (tb_i1 (List.mem_of_getElem? (i := 219) rfl) rfl)⟩,
  ⟨_, _, _, rfl, by decide, (tb_i1 (List.mem_of_getElem? (i := 221) rfl) rfl)⟩,
  ⟨_, _, _, rfl, by decide, (tb_i1 (List.mem_of_getElem? (i := 223) rfl) rfl)⟩,
  ⟨_, _, _, rfl, by decide, (tb_i1 (List.mem_of_getElem? (i := 224) rfl) rfl)⟩,
  ⟨_, _, _, rfl, by decide, (tb_i1 (List.mem_of_getElem? (i := 218) rfl) rfl)⟩,
  ⟨_, _, _, rfl, by decide, (tb_i1 (List.mem_of_getElem? (i := 228) rfl) rfl)⟩,
  ⟨_, _, _, rfl, by decide, (tb_i1 (List.mem_of_getElem? (i := 217) rfl) rfl)⟩,
  ⟨_, _, _, rfl, by decide, (tb_i1 (List.mem_of_getElem? (i := 226) rfl) rfl)⟩,
  ⟨_, _, _, rfl, by decide, (tb_i1 (List.mem_of_getElem? (i := 227) rfl) rfl)⟩,
  ⟨_, _, _, rfl, by decide, (tb_i2 (List.mem_of_getElem? (i := 219) rfl) rfl)⟩,
  ⟨_, _, _, rfl, by decide, (tb_i1 (List.mem_of_getElem? (i := 173) rfl) rfl)⟩,
  ⟨_, _, _, rfl, by decide, (tb_i1 (List.mem_of_getElem? (i := 175) rfl) rfl)⟩,
  ⟨_, _, _, rfl, by decide, (tb_i1 (List.mem_of_getElem? (i := 179) rfl) rfl)⟩,
  ⟨_, _, _, rfl, by decide, (tb_i1 (List.mem_of_getElem? (i := 177) rfl) rfl)⟩,
  ⟨_, _, _, rfl, by decide, (tb_i1 (List.mem_of_getElem? (i := 181) rfl) rfl)⟩,
  trivial⟩
set_option maxRecDepth 20000 in
theorem tb_fl_7 : mm_allL (fun q => (fun (o i : Nat) (v : Nat × Nat) => ∃ C T N, tb_cl[v.1]? = some (C, T, N) ∧ v.2 < N ∧ Cond.fieldLink (tb_cn o) i (T v.2).1 (T v.2).2.1 (T v.2).2.2.1 ∈ tb_TB) 7 q.1 q.2) ((tb_FL[7]?).getD []) := ⟨⟨_, _, _, rfl, by decide, (tb_i2 (List.mem_of_getElem? (i := 29) rfl) rfl)⟩,
  ⟨_, _, _, rfl, by decide, (tb_i2 (List.mem_of_getElem? (i := 30) rfl) rfl)⟩,
  ⟨_, _, _, rfl, by decide, (tb_i2 (List.mem_of_getElem? (i := 31) rfl) rfl)⟩,
  ⟨_, _, _, rfl, by decide, (tb_i2 (List.mem_of_getElem? (i := 33) rfl) rfl)⟩,
  ⟨_, _, _, rfl, by decide, (tb_i2 (List.mem_of_getElem? (i := 35) rfl) rfl)⟩,
  ⟨_, _, _, rfl, by decide, (tb_i2 (List.mem_of_getElem? (i := 36) rfl) rfl)⟩,
  ⟨_, _, _, rfl, by decide, (tb_i2 (List.mem_of_getElem? (i := 37) rfl) rfl)⟩,
  ⟨_, _, _, rfl, by decide, (tb_i2 (List.mem_of_getElem? (i := 218) rfl) rfl)⟩,
  ⟨_, _, _, rfl, by decide, (tb_i2 (List.mem_of_getElem? (i := 210) rfl) rfl)⟩,
  ⟨_, _, _, rfl, by decide, (tb_i2 (List.mem_of_getElem? (i := 214) rfl) rfl)⟩,
  trivial⟩
set_option maxRecDepth 20000 in
theorem tb_fl_8 : mm_allL (fun q => (fun (o i : Nat) (v : Nat × Nat) => ∃ C T N, tb_cl[v.1]? = some (C, T, N) ∧ v.2 < N ∧ Cond.fieldLink (tb_cn o) i (T v.2).1 (T v.2).2.1 (T v.2).2.2.1 ∈ tb_TB) 8 q.1 q.2) ((tb_FL[8]?).getD []) := ⟨⟨_, _, _, rfl, by decide, (tb_i2 (List.mem_of_getElem? (i := 60) rfl) rfl)⟩,
  ⟨_, _, _, rfl, by decide, (tb_i2 (List.mem_of_getElem? (i := 61) rfl) rfl)⟩,
  ⟨_, _, _, rfl, by decide, (tb_i2 (List.mem_of_getElem? (i := 62) rfl) rfl)⟩,
  ⟨_, _, _, rfl, by decide, (tb_i2 (List.mem_of_getElem? (i := 63) rfl) rfl)⟩,
  trivial⟩
set_option maxRecDepth 20000 in
theorem tb_fl_9 : mm_allL (fun q => (fun (o i : Nat) (v : Nat × Nat) => ∃ C T N, tb_cl[v.1]? = some (C, T, N) ∧ v.2 < N ∧ Cond.fieldLink (tb_cn o) i (T v.2).1 (T v.2).2.1 (T v.2).2.2.1 ∈ tb_TB) 9 q.1 q.2) ((tb_FL[9]?).getD []) := ⟨⟨_, _, _, rfl, by decide, (tb_i2 (List.mem_of_getElem? (i := 79) rfl) rfl)⟩,
  ⟨_, _, _, rfl, by decide, (tb_i2 (List.mem_of_getElem? (i := 80) rfl) rfl)⟩,
  ⟨_, _, _, rfl, by decide, (tb_i2 (List.mem_of_getElem? (i := 81) rfl) rfl)⟩,
  ⟨_, _, _, rfl, by decide, (tb_i2 (List.mem_of_getElem? (i := 82) rfl) rfl)⟩,
  ⟨_, _, _, rfl, by decide, (tb_i2 (List.mem_of_getElem? (i := 83) rfl) rfl)⟩,
  ⟨_, _, _, rfl, by decide, (tb_i2 (List.mem_of_getElem? (i := 84) rfl) rfl)⟩,
  ⟨_, _, _, rfl, by decide, (tb_i2 (List.mem_of_getElem? (i := 85) rfl) rfl)⟩,
  ⟨_, _, _, rfl, by decide, (tb_i2 (List.mem_of_getElem? (i := 91) rfl) rfl)⟩,
  ⟨_, _, _, rfl, by decide, (tb_i2 (List.mem_of_getElem? (i := 92) rfl) rfl)⟩,
  trivial⟩
set_option maxRecDepth 20000 in
theorem tb_fl_10 : mm_allL (fun q => (fun (o i : Nat) (v : Nat × Nat) => ∃ C T N, tb_cl[v.1]? = some (C, T, N) ∧ v.2 < N ∧ Cond.fieldLink (tb_cn o) i (T v.2).1 (T v.2).2.1 (T v.2).2.2.1 ∈ tb_TB) 10 q.1 q.2) ((tb_FL[10]?).getD []) := ⟨⟨_, _, _, rfl, by decide, (tb_i2 (List.mem_of_getElem? (i := 184) rfl) rfl)⟩,
  ⟨_, _, _, rfl, by decide, (tb_i2 (List.mem_of_getElem? (i := 185) rfl) rfl)⟩,
  ⟨_, _, _, rfl, by decide, (tb_i2 (List.mem_of_getElem? (i := 186) rfl) rfl)⟩,
  ⟨_, _, _, rfl, by decide, (tb_i2 (List.mem_of_getElem? (i := 190) rfl) rfl)⟩,
  ⟨_, _, _, rfl, by decide, (tb_i2 (List.mem_of_getElem? (i := 194) rfl) rfl)⟩,
  ⟨_, _, _, rfl, by decide, (tb_i2 (List.mem_of_getElem? (i := 198) rfl) rfl)⟩,
  ⟨_, _, _, rfl, by decide, (tb_i2 (List.mem_of_getElem? (i := 201) rfl) rfl)⟩,
  ⟨_, _, _, rfl, by decide, (tb_i2 (List.mem_of_getElem? (i := 205) rfl) rfl)⟩,
  ⟨_, _, _, rfl, by decide, (tb_i2 (List.mem_of_getElem? (i := 209) rfl) rfl)⟩,
  ⟨_, _, _, rfl, by decide, (tb_i2 (List.mem_of_getElem? (i := 213) rfl) rfl)⟩,
  ⟨_, _, _, rfl, by decide, (tb_i2 (List.mem_of_getElem? (i := 217) rfl) rfl)⟩,
  trivial⟩
set_option maxRecDepth 20000 in
theorem tb_fl_11 : mm_allL (fun q => (fun (o i : Nat) (v : Nat × Nat) => ∃ C T N, tb_cl[v.1]? = some (C, T, N) ∧ v.2 < N ∧ Cond.fieldLink (tb_cn o) i (T v.2).1 (T v.2).2.1 (T v.2).2.2.1 ∈ tb_TB) 11 q.1 q.2) ((tb_FL[11]?).getD []) := trivial
set_option maxRecDepth 20000 in
theorem tb_fl_12 : mm_allL (fun q => (fun (o i : Nat) (v : Nat × Nat) => ∃ C T N, tb_cl[v.1]? = some (C, T, N) ∧ v.2 < N ∧ Cond.fieldLink (tb_cn o) i (T v.2).1 (T v.2).2.1 (T v.2).2.2.1 ∈ tb_TB) 12 q.1 q.2) ((tb_FL[12]?).getD []) := ⟨⟨_, _, _, rfl, by decide, (tb_i7 (List.mem_of_getElem? (i := 138) rfl) rfl)⟩,
  ⟨_, _, _, rfl, by decide, (tb_i7 (List.mem_of_getElem? (i := 140) rfl) rfl)⟩,
  ⟨_, _, _, rfl, by decide, (tb_i7 (List.mem_of_getElem? (i := 141) rfl) rfl)⟩,
  ⟨_, _, _, rfl, by decide, (tb_i7 (List.mem_of_getElem? (i := 142) rfl) rfl)⟩,
  ⟨_, _, _, rfl, by decide, (tb_i7 (List.mem_of_getElem? (i := 144) rfl) rfl)⟩,
  ⟨_, _, _, rfl, by decide, (tb_i7 (List.mem_of_getElem? (i := 148) rfl) rfl)⟩,
  ⟨_, _, _, rfl, by decide, (tb_i7 (List.mem_of_getElem? (i := 149) rfl) rfl)⟩,
  ⟨_, _, _, rfl, by decide, (tb_i7 (List.mem_of_getElem? (i := 150) rfl) rfl)⟩,
  ⟨_, _, _, rfl, by decide, (tb_i7 (List.mem_of_getElem? (i := 151) rfl) rfl)⟩,
  ⟨_, _, _, rfl, by decide, (tb_i7 (List.mem_of_getElem? (i := 152) rfl) rfl)⟩,
  ⟨_, _, _, rfl, by decide, (tb_i7 (List.mem_of_getElem? (i := 153) rfl) rfl)⟩,
  ⟨_, _, _, rfl, by decide, (tb_i7 (List.mem_of_getElem? (i := 154) rfl) rfl)⟩,
  ⟨_, _, _, rfl, by decide, (tb_i7 (List.mem_of_getElem? (i := 155) rfl) rfl)⟩,
  ⟨_, _, _, rfl, by decide, (tb_i7 (List.mem_of_getElem? (i := 156) rfl) rfl)⟩,
  ⟨_, _, _, rfl, by decide, (tb_i7 (List.mem_of_getElem? (i := 157) rfl) rfl)⟩,
  ⟨_, _, _, rfl, by decide, (tb_i7 (List.mem_of_getElem? (i := 159) rfl) rfl)⟩,
  ⟨_, _, _, rfl, by decide, (tb_i7 (List.mem_of_getElem? (i := 160) rfl) rfl)⟩,
  ⟨_, _, _, rfl, by decide, (tb_i7 (List.mem_of_getElem? (i := 161) rfl) rfl)⟩,
  ⟨_, _, _, rfl, by decide, (tb_i7 (List.mem_of_getElem? (i := 162) rfl) rfl)⟩,
  ⟨_, _, _, rfl, by decide, (tb_i7 (List.mem_of_getElem? (i := 163) rfl) rfl)⟩,
  ⟨_, _, _, rfl, by decide, (tb_i7 (List.mem_of_getElem? (i := 164) rfl) rfl)⟩,
  ⟨_, _, _, rfl, by decide, (tb_i7 (List.mem_of_getElem? (i := 165) rfl) rfl)⟩,
  ⟨_, _, _, rfl, by decide, (tb_i7 (List.mem_of_getElem? (i := 166) rfl) rfl)⟩,
  ⟨_, _, _, rfl, by decide, (tb_i7 (List.mem_of_getElem? (i := 168) rfl) rfl)⟩,
  ⟨_, _, _, rfl, by decide, (tb_i7 (List.mem_of_getElem? (i := 169) rfl) rfl)⟩,
  ⟨_, _, _, rfl, by decide, (tb_i7 (List.mem_of_getElem? (i := 170) rfl) rfl)⟩,
  ⟨_, _, _, rfl, by decide, (tb_i7 (List.mem_of_getElem? (i := 172) rfl) rfl)⟩,
  ⟨_, _, _, rfl, by decide, (tb_i7 (List.mem_of_getElem? (i := 173) rfl) rfl)⟩,
  ⟨_, _, _, rfl, by decide, (tb_i7 (List.mem_of_getElem? (i := 174) rfl) rfl)⟩,
  ⟨_, _, _, rfl, by decide, (tb_i7 (List.mem_of_getElem? (i := 176) rfl) rfl)⟩,
  ⟨_, _, _, rfl, by decide, (tb_i7 (List.mem_of_getElem? (i := 177) rfl) rfl)⟩,
  ⟨_, _, _, rfl, by decide, (tb_i7 (List.mem_of_getElem? (i := 178) rfl) rfl)⟩,
  ⟨_, _, _, rfl, by decide, (tb_i7 (List.mem_of_getElem? (i := 180) rfl) rfl)⟩,
  ⟨_, _, _, rfl, by decide, (tb_i7 (List.mem_of_getElem? (i := 181) rfl) rfl)⟩,
  ⟨_, _, _, rfl, by decide, (tb_i7 (List.mem_of_getElem? (i := 182) rfl) rfl)⟩,
  ⟨_, _, _, rfl, by decide, (tb_i7 (List.mem_of_getElem? (i := 183) rfl) rfl)⟩,
  ⟨_, _, _, rfl, by decide, (tb_i7 (List.mem_of_getElem? (i := 184) rfl) rfl)⟩,
  ⟨_, _, _, rfl, by decide, (tb_i7 (List.mem_of_getElem? (i := 186) rfl) rfl)⟩,
  ⟨_, _, _, rfl, by decide, (tb_i7 (List.mem_of_getElem? (i := 189) rfl) rfl)⟩,
  ⟨_, _, _, rfl, by decide, (tb_i7 (List.mem_of_getElem? (i := 190) rfl) rfl)⟩,
  ⟨_, _, _, rfl, by decide, (tb_i7 (List.mem_of_getElem? (i := 191) rfl) rfl)⟩,
  ⟨_, _, _, rfl, by decide, (tb_i7 (List.mem_of_getElem? (i := 192) rfl) rfl)⟩,
  ⟨_, _, _, rfl, by decide, (tb_i7 (List.mem_of_getElem? (i := 193) rfl) rfl)⟩,
  ⟨_, _, _, rfl, by decide, (tb_i7 (List.mem_of_getElem? (i := 194) rfl) rfl)⟩,
  ⟨_, _, _, rfl, by decide, (tb_i7 (List.mem_of_getElem? (i := 195) rfl) rfl)⟩,
  ⟨_, _, _, rfl, by decide, (tb_i7 (List.mem_of_getElem? (i := 196) rfl) rfl)⟩,
  ⟨_, _, _, rfl, by decide, (tb_i7 (List.mem_of_getElem? (i := 197) rfl) rfl)⟩,
  ⟨_, _, _, rfl, by decide, (tb_i7 (List.mem_of_getElem? (i := 203) rfl) rfl)⟩,
  ⟨_, _, _, rfl, by decide, (tb_i7 (List.mem_of_getElem? (i := 205) rfl) rfl)⟩,
  ⟨_, _, _, rfl, by decide, (tb_i7 (List.mem_of_getElem? (i := 206) rfl) rfl)⟩,
  ⟨_, _, _, rfl, by decide, (tb_i7 (List.mem_of_getElem? (i := 207) rfl) rfl)⟩,
  ⟨_, _, _, rfl, by decide, (tb_i7 (List.mem_of_getElem? (i := 208) rfl) rfl)⟩,
  ⟨_, _, _, rfl, by decide, (tb_i7 (List.mem_of_getElem? (i := 209) rfl) rfl)⟩,
  ⟨_, _, _, rfl, by decide, (tb_i7 (List.mem_of_getElem? (i := 210) rfl) rfl)⟩,
  ⟨_, _, _, rfl, by decide, (tb_i7 (List.mem_of_getElem? (i := 215) rfl) rfl)⟩,
  ⟨_, _, _, rfl, by decide, (tb_i7 (List.mem_of_getElem? (i := 217) rfl) rfl)⟩,
  ⟨_, _, _, rfl, by decide, (tb_i7 (List.mem_of_getElem? (i := 218) rfl) rfl)⟩,
  ⟨_, _, _, rfl, by decide, (tb_i7 (List.mem_of_getElem? (i := 219) rfl) rfl)⟩,
  ⟨_, _, _, rfl, by decide, (tb_i7 (List.mem_of_getElem? (i := 221) rfl) rfl)⟩,
  ⟨_, _, _, rfl, by decide, (tb_i7 (List.mem_of_getElem? (i := 222) rfl) rfl)⟩,
  ⟨_, _, _, rfl, by decide, (tb_i7 (List.mem_of_getElem? (i := 223) rfl) rfl)⟩,
  ⟨_, _, _, rfl, by decide, (tb_i7 (List.mem_of_getElem? (i := 224) rfl) rfl)⟩,
  ⟨_, _, _, rfl, by decide, (tb_i7 (List.mem_of_getElem? (i := 225) rfl) rfl)⟩,
  ⟨_, _, _, rfl, by decide, (tb_i7 (List.mem_of_getElem? (i := 226) rfl) rfl)⟩,
  ⟨_, _, _, rfl, by decide, (tb_i7 (List.mem_of_getElem? (i := 231) rfl) rfl)⟩,
  ⟨_, _, _, rfl, by decide, (tb_i7 (List.mem_of_getElem? (i := 232) rfl) rfl)⟩,
  ⟨_, _, _, rfl, by decide, (tb_i7 (List.mem_of_getElem? (i := 234) rfl) rfl)⟩,
  ⟨_, _, _, rfl, by decide, (tb_i7 (List.mem_of_getElem? (i := 236) rfl) rfl)⟩,
  ⟨_, _, _, rfl, by decide, (tb_i7 (List.mem_of_getElem? (i := 237) rfl) rfl)⟩,
  ⟨_, _, _, rfl, by decide, (tb_i8 (List.mem_of_getElem? (i := 0) rfl) rfl)⟩,
  ⟨_, _, _, rfl, by decide, (tb_i8 (List.mem_of_getElem? (i := 1) rfl) rfl)⟩,
  ⟨_, _, _, rfl, by decide, (tb_i8 (List.mem_of_getElem? (i := 2) rfl) rfl)⟩,
  ⟨_, _, _, rfl, by decide, (tb_i8 (List.mem_of_getElem? (i := 3) rfl) rfl)⟩,
  ⟨_, _, _, rfl, by decide, (tb_i8 (List.mem_of_getElem? (i := 4) rfl) rfl)⟩,
  ⟨_, _, _, rfl, by decide, (tb_i8 (List.mem_of_getElem? (i := 5) rfl) rfl)⟩,
  ⟨_, _, _, rfl, by decide, (tb_i8 (List.mem_of_getElem? (i := 6) rfl) rfl)⟩,
  ⟨_, _, _, rfl, by decide, (tb_i8 (List.mem_of_getElem? (i := 7) rfl) rfl)⟩,
  ⟨_, _, _, rfl, by decide, (tb_i8 (List.mem_of_getElem? (i := 8) rfl) rfl)⟩,
  ⟨_, _, _, rfl, by decide, (tb_i8 (List.mem_of_getElem? (i := 11) rfl) rfl)⟩,
  ⟨_, _, _, rfl, by decide, (tb_i8 (List.mem_of_getElem? (i := 12) rfl) rfl)⟩,
  ⟨_, _, _, rfl, by decide, (tb_i8 (List.mem_of_getElem? (i := 13) rfl) rfl)⟩,
  ⟨_, _, _, rfl, by decide, (tb_i8 (List.mem_of_getElem? (i := 14) rfl) rfl)⟩,
  ⟨_, _, _, rfl, by decide, (tb_i8 (List.mem_of_getElem? (i := 17) rfl) rfl)⟩,
  ⟨_, _, _, rfl, by decide, (tb_i8 (List.mem_of_getElem? (i := 18) rfl) rfl)⟩,
  ⟨_, _, _, rfl, by decide, (tb_i8 (List.mem_of_getElem? (i := 19) rfl) rfl)⟩,
  ⟨_, _, _, rfl, by decide, (tb_i8 (List.mem_of_getElem? (i := 20) rfl) rfl)⟩,
  ⟨_, _, _, rfl, by decide, (tb_i8 (List.mem_of_getElem? (i := 21) rfl) rfl)⟩,
  ⟨_, _, _, rfl, by decide, (tb_i8 (List.mem_of_getElem? (i := 22) rfl) rfl)⟩,
  ⟨_, _, _, rfl, by decide, (tb_i8 (List.mem_of_getElem? (i := 24) rfl) rfl)⟩,
  ⟨_, _, _, rfl, by decide, (tb_i8 (List.mem_of_getElem? (i := 27) rfl) rfl)⟩,
  ⟨_, _, _, rfl, by decide, (tb_i8 (List.mem_of_getElem? (i := 28) rfl) rfl)⟩,
  ⟨_, _, _, rfl, by decide, (tb_i8 (List.mem_of_getElem? (i := 29) rfl) rfl)⟩,
  ⟨_, _, _, rfl, by decide, (tb_i8 (List.mem_of_getElem? (i := 30) rfl) rfl)⟩,
  ⟨_, _, _, rfl, by decide, (tb_i8 (List.mem_of_getElem? (i := 34) rfl) rfl)⟩,
  ⟨_, _, _, rfl, by decide, (tb_i8 (List.mem_of_getElem? (i := 39) rfl) rfl)⟩,
  ⟨_, _, _, rfl, by decide, (tb_i8 (List.mem_of_getElem? (i := 41) rfl) rfl)⟩,
  ⟨_, _, _, rfl, by decide, (tb_i7 (List.mem_of_getElem? (i := 137) rfl) rfl)⟩,
  ⟨_, _, _, rfl, by decide, (tb_i7 (List.mem_of_getElem? (i := 139) rfl) rfl)⟩,
  ⟨_, _, _, rfl, by decide, (tb_i7 (List.mem_of_getElem? (i := 143) rfl) rfl)⟩,
  ⟨_, _, _, rfl, by decide, (tb_i7 (List.mem_of_getElem? (i := 145) rfl) rfl)⟩,
  ⟨_, _, _, rfl, by decide, (tb_i7 (List.mem_of_getElem? (i := 146) rfl) rfl)⟩,
  ⟨_, _, _, rfl, by decide, (tb_i7 (List.mem_of_getElem? (i := 158) rfl) rfl)⟩,
  ⟨_, _, _, rfl, by decide, (tb_i7 (List.mem_of_getElem? (i := 167) rfl) rfl)⟩,
  ⟨_, _, _, rfl, by decide, (tb_i7 (List.mem_of_getElem? (i := 171) rfl) rfl)⟩,
  ⟨_, _, _, rfl, by decide, (tb_i7 (List.mem_of_getElem? (i := 175) rfl) rfl)⟩,
  ⟨_, _, _, rfl, by decide, (tb_i7 (List.mem_of_getElem? (i := 179) rfl) rfl)⟩,
  ⟨_, _, _, rfl, by decide, (tb_i7 (List.mem_of_getElem? (i := 187) rfl) rfl)⟩,
  ⟨_, _, _, rfl, by decide, (tb_i7 (List.mem_of_getElem? (i := 185) rfl) rfl)⟩,
  ⟨_, _, _, rfl, by decide, (tb_i7 (List.mem_of_getElem? (i := 147) rfl) rfl)⟩,
  ⟨_, _, _, rfl, by decide, (tb_i7 (List.mem_of_getElem? (i := 199) rfl) rfl)⟩,
  ⟨_, _, _, rfl, by decide, (tb_i7 (List.mem_of_getElem? (i := 200) rfl) rfl)⟩,
  ⟨_, _, _, rfl, by decide, (tb_i7 (List.mem_of_getElem? (i := 201) rfl) rfl)⟩,
  ⟨_, _, _, rfl, by decide, (tb_i7 (List.mem_of_getElem? (i := 202) rfl) rfl)⟩,
  ⟨_, _, _, rfl, by decide, (tb_i7 (List.mem_of_getElem? (i := 204) rfl) rfl)⟩,
  ⟨_, _, _, rfl, by decide, (tb_i7 (List.mem_of_getElem? (i := 211) rfl) rfl)⟩,
  ⟨_, _, _, rfl, by decide, (tb_i7 (List.mem_of_getElem? (i := 216) rfl) rfl)⟩,
  ⟨_, _, _, rfl, by decide, (tb_i7 (List.mem_of_getElem? (i := 238) rfl) rfl)⟩,
  ⟨_, _, _, rfl, by decide, (tb_i7 (List.mem_of_getElem? (i := 235) rfl) rfl)⟩,
  ⟨_, _, _, rfl, by decide, (tb_i7 (List.mem_of_getElem? (i := 233) rfl) rfl)⟩,
  ⟨_, _, _, rfl, by decide, (tb_i8 (List.mem_of_getElem? (i := 9) rfl) rfl)⟩,
  ⟨_, _, _, rfl, by decide, (tb_i8 (List.mem_of_getElem? (i := 23) rfl) rfl)⟩,
  ⟨_, _, _, rfl, by decide, (tb_i8 (List.mem_of_getElem? (i := 31) rfl) rfl)⟩,
  ⟨_, _, _, rfl, by decide, (tb_i8 (List.mem_of_getElem? (i := 33) rfl) rfl)⟩,
  ⟨_, _, _, rfl, by decide, (tb_i8 (List.mem_of_getElem? (i := 35) rfl) rfl)⟩,
  ⟨_, _, _, rfl, by decide, (tb_i8 (List.mem_of_getElem? (i := 36) rfl) rfl)⟩,
  ⟨_, _, _, rfl, by decide, (tb_i8 (List.mem_of_getElem? (i := 37) rfl) rfl)⟩,
  ⟨_, _, _, rfl, by decide, (tb_i8 (List.mem_of_getElem? (i := 38) rfl) rfl)⟩,
  ⟨_, _, _, rfl, by decide, (tb_i8 (List.mem_of_getElem? (i := 32) rfl) rfl)⟩,
  ⟨_, _, _, rfl, by decide, (tb_i8 (List.mem_of_getElem? (i := 40) rfl) rfl)⟩,
  trivial⟩
set_option maxRecDepth 20000 in
theorem tb_fl_13 : mm_allL (fun q => (fun (o i : Nat) (v : Nat × Nat) => ∃ C T N, tb_cl[v.1]? = some (C, T, N) ∧ v.2 < N ∧ Cond.fieldLink (tb_cn o) i (T v.2).1 (T v.2).2.1 (T v.2).2.2.1 ∈ tb_TB) 13 q.1 q.2) ((tb_FL[13]?).getD []) := trivial
set_option maxRecDepth 20000 in
theorem tb_fl_14 : mm_allL (fun q => (fun (o i : Nat) (v : Nat × Nat) => ∃ C T N, tb_cl[v.1]? = some (C, T, N) ∧ v.2 < N ∧ Cond.fieldLink (tb_cn o) i (T v.2).1 (T v.2).2.1 (T v.2).2.2.1 ∈ tb_TB) 14 q.1 q.2) ((tb_FL[14]?).getD []) := trivial
set_option maxRecDepth 20000 in
theorem tb_fl_15 : mm_allL (fun q => (fun (o i : Nat) (v : Nat × Nat) => ∃ C T N, tb_cl[v.1]? = some (C, T, N) ∧ v.2 < N ∧ Cond.fieldLink (tb_cn o) i (T v.2).1 (T v.2).2.1 (T v.2).2.2.1 ∈ tb_TB) 15 q.1 q.2) ((tb_FL[15]?).getD []) := trivial
set_option maxRecDepth 20000 in
theorem tb_fl_16 : mm_allL (fun q => (fun (o i : Nat) (v : Nat × Nat) => ∃ C T N, tb_cl[v.1]? = some (C, T, N) ∧ v.2 < N ∧ Cond.fieldLink (tb_cn o) i (T v.2).1 (T v.2).2.1 (T v.2).2.2.1 ∈ tb_TB) 16 q.1 q.2) ((tb_FL[16]?).getD []) := trivial
set_option maxRecDepth 20000 in
theorem tb_fl_17 : mm_allL (fun q => (fun (o i : Nat) (v : Nat × Nat) => ∃ C T N, tb_cl[v.1]? = some (C, T, N) ∧ v.2 < N ∧ Cond.fieldLink (tb_cn o) i (T v.2).1 (T v.2).2.1 (T v.2).2.2.1 ∈ tb_TB) 17 q.1 q.2) ((tb_FL[17]?).getD []) := trivial
set_option maxRecDepth 20000 in
theorem tb_fl_all : mm_all2P (fun (o i : Nat) (v : Nat × Nat) => ∃ C T N, tb_cl[v.1]? = some (C, T, N) ∧ v.2 < N ∧ Cond.fieldLink (tb_cn o) i (T v.2).1 (T v.2).2.1 (T v.2).2.2.1 ∈ tb_TB) 0 tb_FL := ⟨tb_fl_0, tb_fl_1, tb_fl_2, tb_fl_3, tb_fl_4, tb_fl_5, tb_fl_6, tb_fl_7, tb_fl_8, tb_fl_9, tb_fl_10, tb_fl_11, tb_fl_12, tb_fl_13, tb_fl_14, tb_fl_15, tb_fl_16, tb_fl_17, trivial⟩
theorem tb_v0 : (∀ x ∈ tb_V0, ∀ q, x ≠ .ref q) ∧ ∀ j, j < 12 → defaultValue (tb_ft 0 j).1 = vp_V tb_V0 j := ⟨mm_noref (by decide), mm_dfl (by decide)⟩
theorem tb_v1 : (∀ x ∈ tb_V1, ∀ q, x ≠ .ref q) ∧ ∀ j, j < 10 → defaultValue (tb_ft 1 j).1 = vp_V tb_V1 j := ⟨mm_noref (by decide), mm_dfl (by decide)⟩
theorem tb_v2 : (∀ x ∈ tb_V2, ∀ q, x ≠ .ref q) ∧ ∀ j, j < 3 → defaultValue (tb_ft 2 j).1 = vp_V tb_V2 j := ⟨mm_noref (by decide), mm_dfl (by decide)⟩
theorem tb_v3 : (∀ x ∈ tb_V3, ∀ q, x ≠ .ref q) ∧ ∀ j, j < 7 → defaultValue (tb_ft 3 j).1 = vp_V tb_V3 j := ⟨mm_noref (by decide), mm_dfl (by decide)⟩
theorem tb_v4 : (∀ x ∈ tb_V4, ∀ q, x ≠ .ref q) ∧ ∀ j, j < 2 → defaultValue (tb_ft 4 j).1 = vp_V tb_V4 j := ⟨mm_noref (by decide), mm_dfl (by decide)⟩
theorem tb_v5 : (∀ x ∈ tb_V5, ∀ q, x ≠ .ref q) ∧ ∀ j, j < 14 → defaultValue (tb_ft 5 j).1 = vp_V tb_V5 j := ⟨mm_noref (by decide), mm_dfl (by decide)⟩
theorem tb_v6 : (∀ x ∈ tb_V6, ∀ q, x ≠ .ref q) ∧ ∀ j, j < 15 → defaultValue (tb_ft 6 j).1 = vp_V tb_V6 j := ⟨mm_noref (by decide), mm_dfl (by decide)⟩
theorem tb_v7 : (∀ x ∈ tb_V7, ∀ q, x ≠ .ref q) ∧ ∀ j, j < 7 → defaultValue (tb_ft 7 j).1 = vp_V tb_V7 j := ⟨mm_noref (by decide), mm_dfl (by decide)⟩
theorem tb_v8 : (∀ x ∈ tb_V8, ∀ q, x ≠ .ref q) ∧ ∀ j, j < 4 → defaultValue (tb_ft 8 j).1 = vp_V tb_V8 j := ⟨mm_noref (by decide), mm_dfl (by decide)⟩
theorem tb_v9 : (∀ x ∈ tb_V9, ∀ q, x ≠ .ref q) ∧ ∀ j, j < 14 → defaultValue (tb_ft 9 j).1 = vp_V tb_V9 j := ⟨mm_noref (by decide), mm_dfl (by decide)⟩
theorem tb_v10 : (∀ x ∈ tb_V10, ∀ q, x ≠ .ref q) ∧ ∀ j, j < 11 → defaultValue (tb_ft 10 j).1 = vp_V tb_V10 j := ⟨mm_noref (by decide), mm_dfl (by decide)⟩
theorem tb_v11 : (∀ x ∈ tb_V11, ∀ q, x ≠ .ref q) ∧ ∀ j, j < 5 → defaultValue (tb_ft 11 j).1 = vp_V tb_V11 j := ⟨mm_noref (by decide), mm_dfl (by decide)⟩
theorem tb_v12 : (∀ x ∈ tb_V12, ∀ q, x ≠ .ref q) ∧ ∀ j, j < 145 → defaultValue (tb_ft 12 j).1 = vp_V tb_V12 j := ⟨mm_noref (by decide), mm_dfl (by decide)⟩
set_option maxRecDepth 20000 in
theorem tb_nl_0 : mm_allL (fun q => (fun (o i : Nat) (v : Nat × List Value) => ∃ C T N, tb_cl[v.1]? = some (C, T, N) ∧ Cond.classLink (tb_cn o) i C ∈ tb_TB ∧ Cond.instantiable C N ∈ tb_TB ∧ Cond.initialized C ∈ tb_TB ∧ v.2.length = N ∧ (∀ x ∈ v.2, ∀ q, x ≠ .ref q) ∧ ∀ j, j < N → defaultValue (tb_ft v.1 j).1 = vp_V v.2 j) 0 q.1 q.2) ((tb_NL[0]?).getD []) := ⟨⟨_, _, _, rfl, (tb_i1 (List.mem_of_getElem? (i := 35) rfl) rfl), (tb_i1 (List.mem_of_getElem? (i := 36) rfl) rfl), (tb_i1 (List.mem_of_getElem? (i := 2) rfl) rfl), rfl, tb_v1.1, tb_v1.2⟩,
  ⟨_, _, _, rfl, (tb_i1 (List.mem_of_getElem? (i := 78) rfl) rfl), (tb_i1 (List.mem_of_getElem? (i := 79) rfl) rfl), (tb_i1 (List.mem_of_getElem? (i := 3) rfl) rfl), rfl, tb_v2.1, tb_v2.2⟩,
  ⟨_, _, _, rfl, (tb_i1 (List.mem_of_getElem? (i := 95) rfl) rfl), (tb_i2 (List.mem_of_getElem? (i := 179) rfl) rfl), (tb_i1 (List.mem_of_getElem? (i := 17) rfl) rfl), rfl, tb_v10.1, tb_v10.2⟩,
  ⟨_, _, _, rfl, (tb_i1 (List.mem_of_getElem? (i := 97) rfl) rfl), (tb_i1 (List.mem_of_getElem? (i := 98) rfl) rfl), (tb_i1 (List.mem_of_getElem? (i := 4) rfl) rfl), rfl, tb_v6.1, tb_v6.2⟩,
  ⟨_, _, _, rfl, (tb_i2 (List.mem_of_getElem? (i := 21) rfl) rfl), (tb_i2 (List.mem_of_getElem? (i := 22) rfl) rfl), (tb_i1 (List.mem_of_getElem? (i := 9) rfl) rfl), rfl, tb_v7.1, tb_v7.2⟩,
  ⟨_, _, _, rfl, (tb_i2 (List.mem_of_getElem? (i := 54) rfl) rfl), (tb_i2 (List.mem_of_getElem? (i := 55) rfl) rfl), (tb_i1 (List.mem_of_getElem? (i := 10) rfl) rfl), rfl, tb_v8.1, tb_v8.2⟩,
  ⟨_, _, _, rfl, (tb_i2 (List.mem_of_getElem? (i := 73) rfl) rfl), (tb_i2 (List.mem_of_getElem? (i := 74) rfl) rfl), (tb_i1 (List.mem_of_getElem? (i := 11) rfl) rfl), rfl, tb_v9.1, tb_v9.2⟩,
  ⟨_, _, _, rfl, (tb_i2 (List.mem_of_getElem? (i := 122) rfl) rfl), (tb_i1 (List.mem_of_getElem? (i := 104) rfl) rfl), (tb_i1 (List.mem_of_getElem? (i := 5) rfl) rfl), rfl, tb_v5.1, tb_v5.2⟩,
  ⟨_, _, _, rfl, (tb_i2 (List.mem_of_getElem? (i := 124) rfl) rfl), (tb_i1 (List.mem_of_getElem? (i := 143) rfl) rfl), (tb_i1 (List.mem_of_getElem? (i := 8) rfl) rfl), rfl, tb_v4.1, tb_v4.2⟩,
  trivial⟩
set_option maxRecDepth 20000 in
theorem tb_nl_1 : mm_allL (fun q => (fun (o i : Nat) (v : Nat × List Value) => ∃ C T N, tb_cl[v.1]? = some (C, T, N) ∧ Cond.classLink (tb_cn o) i C ∈ tb_TB ∧ Cond.instantiable C N ∈ tb_TB ∧ Cond.initialized C ∈ tb_TB ∧ v.2.length = N ∧ (∀ x ∈ v.2, ∀ q, x ≠ .ref q) ∧ ∀ j, j < N → defaultValue (tb_ft v.1 j).1 = vp_V v.2 j) 1 q.1 q.2) ((tb_NL[1]?).getD []) := trivial
set_option maxRecDepth 20000 in
theorem tb_nl_2 : mm_allL (fun q => (fun (o i : Nat) (v : Nat × List Value) => ∃ C T N, tb_cl[v.1]? = some (C, T, N) ∧ Cond.classLink (tb_cn o) i C ∈ tb_TB ∧ Cond.instantiable C N ∈ tb_TB ∧ Cond.initialized C ∈ tb_TB ∧ v.2.length = N ∧ (∀ x ∈ v.2, ∀ q, x ≠ .ref q) ∧ ∀ j, j < N → defaultValue (tb_ft v.1 j).1 = vp_V v.2 j) 2 q.1 q.2) ((tb_NL[2]?).getD []) := trivial
set_option maxRecDepth 20000 in
theorem tb_nl_3 : mm_allL (fun q => (fun (o i : Nat) (v : Nat × List Value) => ∃ C T N, tb_cl[v.1]? = some (C, T, N) ∧ Cond.classLink (tb_cn o) i C ∈ tb_TB ∧ Cond.instantiable C N ∈ tb_TB ∧ Cond.initialized C ∈ tb_TB ∧ v.2.length = N ∧ (∀ x ∈ v.2, ∀ q, x ≠ .ref q) ∧ ∀ j, j < N → defaultValue (tb_ft v.1 j).1 = vp_V v.2 j) 3 q.1 q.2) ((tb_NL[3]?).getD []) := trivial
set_option maxRecDepth 20000 in
theorem tb_nl_4 : mm_allL (fun q => (fun (o i : Nat) (v : Nat × List Value) => ∃ C T N, tb_cl[v.1]? = some (C, T, N) ∧ Cond.classLink (tb_cn o) i C ∈ tb_TB ∧ Cond.instantiable C N ∈ tb_TB ∧ Cond.initialized C ∈ tb_TB ∧ v.2.length = N ∧ (∀ x ∈ v.2, ∀ q, x ≠ .ref q) ∧ ∀ j, j < N → defaultValue (tb_ft v.1 j).1 = vp_V v.2 j) 4 q.1 q.2) ((tb_NL[4]?).getD []) := trivial
set_option maxRecDepth 20000 in
theorem tb_nl_5 : mm_allL (fun q => (fun (o i : Nat) (v : Nat × List Value) => ∃ C T N, tb_cl[v.1]? = some (C, T, N) ∧ Cond.classLink (tb_cn o) i C ∈ tb_TB ∧ Cond.instantiable C N ∈ tb_TB ∧ Cond.initialized C ∈ tb_TB ∧ v.2.length = N ∧ (∀ x ∈ v.2, ∀ q, x ≠ .ref q) ∧ ∀ j, j < N → defaultValue (tb_ft v.1 j).1 = vp_V v.2 j) 5 q.1 q.2) ((tb_NL[5]?).getD []) := ⟨⟨_, _, _, rfl, (tb_i1 (List.mem_of_getElem? (i := 109) rfl) rfl), (tb_i1 (List.mem_of_getElem? (i := 110) rfl) rfl), (tb_i1 (List.mem_of_getElem? (i := 6) rfl) rfl), rfl, tb_v3.1, tb_v3.2⟩,
  ⟨_, _, _, rfl, (tb_i1 (List.mem_of_getElem? (i := 141) rfl) rfl), (tb_i1 (List.mem_of_getElem? (i := 143) rfl) rfl), (tb_i1 (List.mem_of_getElem? (i := 8) rfl) rfl), rfl, tb_v4.1, tb_v4.2⟩,
  trivial⟩
set_option maxRecDepth 20000 in
theorem tb_nl_6 : mm_allL (fun q => (fun (o i : Nat) (v : Nat × List Value) => ∃ C T N, tb_cl[v.1]? = some (C, T, N) ∧ Cond.classLink (tb_cn o) i C ∈ tb_TB ∧ Cond.instantiable C N ∈ tb_TB ∧ Cond.initialized C ∈ tb_TB ∧ v.2.length = N ∧ (∀ x ∈ v.2, ∀ q, x ≠ .ref q) ∧ ∀ j, j < N → defaultValue (tb_ft v.1 j).1 = vp_V v.2 j) 6 q.1 q.2) ((tb_NL[6]?).getD []) := ⟨⟨_, _, _, rfl, (tb_i1 (List.mem_of_getElem? (i := 103) rfl) rfl), (tb_i1 (List.mem_of_getElem? (i := 104) rfl) rfl), (tb_i1 (List.mem_of_getElem? (i := 5) rfl) rfl), rfl, tb_v5.1, tb_v5.2⟩,
  trivial⟩
set_option maxRecDepth 20000 in
theorem tb_nl_7 : mm_allL (fun q => (fun (o i : Nat) (v : Nat × List Value) => ∃ C T N, tb_cl[v.1]? = some (C, T, N) ∧ Cond.classLink (tb_cn o) i C ∈ tb_TB ∧ Cond.instantiable C N ∈ tb_TB ∧ Cond.initialized C ∈ tb_TB ∧ v.2.length = N ∧ (∀ x ∈ v.2, ∀ q, x ≠ .ref q) ∧ ∀ j, j < N → defaultValue (tb_ft v.1 j).1 = vp_V v.2 j) 7 q.1 q.2) ((tb_NL[7]?).getD []) := trivial
set_option maxRecDepth 20000 in
theorem tb_nl_8 : mm_allL (fun q => (fun (o i : Nat) (v : Nat × List Value) => ∃ C T N, tb_cl[v.1]? = some (C, T, N) ∧ Cond.classLink (tb_cn o) i C ∈ tb_TB ∧ Cond.instantiable C N ∈ tb_TB ∧ Cond.initialized C ∈ tb_TB ∧ v.2.length = N ∧ (∀ x ∈ v.2, ∀ q, x ≠ .ref q) ∧ ∀ j, j < N → defaultValue (tb_ft v.1 j).1 = vp_V v.2 j) 8 q.1 q.2) ((tb_NL[8]?).getD []) := trivial
set_option maxRecDepth 20000 in
theorem tb_nl_9 : mm_allL (fun q => (fun (o i : Nat) (v : Nat × List Value) => ∃ C T N, tb_cl[v.1]? = some (C, T, N) ∧ Cond.classLink (tb_cn o) i C ∈ tb_TB ∧ Cond.instantiable C N ∈ tb_TB ∧ Cond.initialized C ∈ tb_TB ∧ v.2.length = N ∧ (∀ x ∈ v.2, ∀ q, x ≠ .ref q) ∧ ∀ j, j < N → defaultValue (tb_ft v.1 j).1 = vp_V v.2 j) 9 q.1 q.2) ((tb_NL[9]?).getD []) := trivial
set_option maxRecDepth 20000 in
theorem tb_nl_10 : mm_allL (fun q => (fun (o i : Nat) (v : Nat × List Value) => ∃ C T N, tb_cl[v.1]? = some (C, T, N) ∧ Cond.classLink (tb_cn o) i C ∈ tb_TB ∧ Cond.instantiable C N ∈ tb_TB ∧ Cond.initialized C ∈ tb_TB ∧ v.2.length = N ∧ (∀ x ∈ v.2, ∀ q, x ≠ .ref q) ∧ ∀ j, j < N → defaultValue (tb_ft v.1 j).1 = vp_V v.2 j) 10 q.1 q.2) ((tb_NL[10]?).getD []) := trivial
set_option maxRecDepth 20000 in
theorem tb_nl_11 : mm_allL (fun q => (fun (o i : Nat) (v : Nat × List Value) => ∃ C T N, tb_cl[v.1]? = some (C, T, N) ∧ Cond.classLink (tb_cn o) i C ∈ tb_TB ∧ Cond.instantiable C N ∈ tb_TB ∧ Cond.initialized C ∈ tb_TB ∧ v.2.length = N ∧ (∀ x ∈ v.2, ∀ q, x ≠ .ref q) ∧ ∀ j, j < N → defaultValue (tb_ft v.1 j).1 = vp_V v.2 j) 11 q.1 q.2) ((tb_NL[11]?).getD []) := trivial
set_option maxRecDepth 20000 in
theorem tb_nl_12 : mm_allL (fun q => (fun (o i : Nat) (v : Nat × List Value) => ∃ C T N, tb_cl[v.1]? = some (C, T, N) ∧ Cond.classLink (tb_cn o) i C ∈ tb_TB ∧ Cond.instantiable C N ∈ tb_TB ∧ Cond.initialized C ∈ tb_TB ∧ v.2.length = N ∧ (∀ x ∈ v.2, ∀ q, x ≠ .ref q) ∧ ∀ j, j < N → defaultValue (tb_ft v.1 j).1 = vp_V v.2 j) 12 q.1 q.2) ((tb_NL[12]?).getD []) := trivial
set_option maxRecDepth 20000 in
theorem tb_nl_13 : mm_allL (fun q => (fun (o i : Nat) (v : Nat × List Value) => ∃ C T N, tb_cl[v.1]? = some (C, T, N) ∧ Cond.classLink (tb_cn o) i C ∈ tb_TB ∧ Cond.instantiable C N ∈ tb_TB ∧ Cond.initialized C ∈ tb_TB ∧ v.2.length = N ∧ (∀ x ∈ v.2, ∀ q, x ≠ .ref q) ∧ ∀ j, j < N → defaultValue (tb_ft v.1 j).1 = vp_V v.2 j) 13 q.1 q.2) ((tb_NL[13]?).getD []) := trivial
set_option maxRecDepth 20000 in
theorem tb_nl_14 : mm_allL (fun q => (fun (o i : Nat) (v : Nat × List Value) => ∃ C T N, tb_cl[v.1]? = some (C, T, N) ∧ Cond.classLink (tb_cn o) i C ∈ tb_TB ∧ Cond.instantiable C N ∈ tb_TB ∧ Cond.initialized C ∈ tb_TB ∧ v.2.length = N ∧ (∀ x ∈ v.2, ∀ q, x ≠ .ref q) ∧ ∀ j, j < N → defaultValue (tb_ft v.1 j).1 = vp_V v.2 j) 14 q.1 q.2) ((tb_NL[14]?).getD []) := trivial
set_option maxRecDepth 20000 in
theorem tb_nl_15 : mm_allL (fun q => (fun (o i : Nat) (v : Nat × List Value) => ∃ C T N, tb_cl[v.1]? = some (C, T, N) ∧ Cond.classLink (tb_cn o) i C ∈ tb_TB ∧ Cond.instantiable C N ∈ tb_TB ∧ Cond.initialized C ∈ tb_TB ∧ v.2.length = N ∧ (∀ x ∈ v.2, ∀ q, x ≠ .ref q) ∧ ∀ j, j < N → defaultValue (tb_ft v.1 j).1 = vp_V v.2 j) 15 q.1 q.2) ((tb_NL[15]?).getD []) := ⟨⟨_, _, _, rfl, (tb_i1 (List.mem_of_getElem? (i := 27) rfl) rfl), (tb_i1 (List.mem_of_getElem? (i := 28) rfl) rfl), (tb_i1 (List.mem_of_getElem? (i := 1) rfl) rfl), rfl, tb_v0.1, tb_v0.2⟩,
  ⟨_, _, _, rfl, (tb_i7 (List.mem_of_getElem? (i := 131) rfl) rfl), (tb_i7 (List.mem_of_getElem? (i := 132) rfl) rfl), (tb_i1 (List.mem_of_getElem? (i := 12) rfl) rfl), rfl, tb_v12.1, tb_v12.2⟩,
  trivial⟩
set_option maxRecDepth 20000 in
theorem tb_nl_16 : mm_allL (fun q => (fun (o i : Nat) (v : Nat × List Value) => ∃ C T N, tb_cl[v.1]? = some (C, T, N) ∧ Cond.classLink (tb_cn o) i C ∈ tb_TB ∧ Cond.instantiable C N ∈ tb_TB ∧ Cond.initialized C ∈ tb_TB ∧ v.2.length = N ∧ (∀ x ∈ v.2, ∀ q, x ≠ .ref q) ∧ ∀ j, j < N → defaultValue (tb_ft v.1 j).1 = vp_V v.2 j) 16 q.1 q.2) ((tb_NL[16]?).getD []) := trivial
set_option maxRecDepth 20000 in
theorem tb_nl_17 : mm_allL (fun q => (fun (o i : Nat) (v : Nat × List Value) => ∃ C T N, tb_cl[v.1]? = some (C, T, N) ∧ Cond.classLink (tb_cn o) i C ∈ tb_TB ∧ Cond.instantiable C N ∈ tb_TB ∧ Cond.initialized C ∈ tb_TB ∧ v.2.length = N ∧ (∀ x ∈ v.2, ∀ q, x ≠ .ref q) ∧ ∀ j, j < N → defaultValue (tb_ft v.1 j).1 = vp_V v.2 j) 17 q.1 q.2) ((tb_NL[17]?).getD []) := trivial
set_option maxRecDepth 20000 in
theorem tb_nl_all : mm_all2P (fun (o i : Nat) (v : Nat × List Value) => ∃ C T N, tb_cl[v.1]? = some (C, T, N) ∧ Cond.classLink (tb_cn o) i C ∈ tb_TB ∧ Cond.instantiable C N ∈ tb_TB ∧ Cond.initialized C ∈ tb_TB ∧ v.2.length = N ∧ (∀ x ∈ v.2, ∀ q, x ≠ .ref q) ∧ ∀ j, j < N → defaultValue (tb_ft v.1 j).1 = vp_V v.2 j) 0 tb_NL := ⟨tb_nl_0, tb_nl_1, tb_nl_2, tb_nl_3, tb_nl_4, tb_nl_5, tb_nl_6, tb_nl_7, tb_nl_8, tb_nl_9, tb_nl_10, tb_nl_11, tb_nl_12, tb_nl_13, tb_nl_14, tb_nl_15, tb_nl_16, tb_nl_17, trivial⟩
set_option maxRecDepth 20000 in
theorem tb_al_0 : mm_allL (fun q => (fun (o i : Nat) (t : Nat) => (∃ C, tb_tyl[t]? = some (.object C) ∧ Cond.classLink (tb_cn o) i C ∈ tb_TB ∧ Cond.arrayOver (.object C) ∈ tb_TB) ∨ (∃ y, tb_tyl[t]? = some (.array y) ∧ Cond.classLink (tb_cn o) i (FieldType.array y).toString ∈ tb_TB ∧ Cond.arrayOver (.array y) ∈ tb_TB)) 0 q.1 q.2) ((tb_AL[0]?).getD []) := ⟨Or.inl ⟨_, rfl, (tb_i1 (List.mem_of_getElem? (i := 95) rfl) rfl), (tb_i1 (List.mem_of_getElem? (i := 96) rfl) rfl)⟩,
  trivial⟩
set_option maxRecDepth 20000 in
theorem tb_al_1 : mm_allL (fun q => (fun (o i : Nat) (t : Nat) => (∃ C, tb_tyl[t]? = some (.object C) ∧ Cond.classLink (tb_cn o) i C ∈ tb_TB ∧ Cond.arrayOver (.object C) ∈ tb_TB) ∨ (∃ y, tb_tyl[t]? = some (.array y) ∧ Cond.classLink (tb_cn o) i (FieldType.array y).toString ∈ tb_TB ∧ Cond.arrayOver (.array y) ∈ tb_TB)) 1 q.1 q.2) ((tb_AL[1]?).getD []) := trivial
set_option maxRecDepth 20000 in
theorem tb_al_2 : mm_allL (fun q => (fun (o i : Nat) (t : Nat) => (∃ C, tb_tyl[t]? = some (.object C) ∧ Cond.classLink (tb_cn o) i C ∈ tb_TB ∧ Cond.arrayOver (.object C) ∈ tb_TB) ∨ (∃ y, tb_tyl[t]? = some (.array y) ∧ Cond.classLink (tb_cn o) i (FieldType.array y).toString ∈ tb_TB ∧ Cond.arrayOver (.array y) ∈ tb_TB)) 2 q.1 q.2) ((tb_AL[2]?).getD []) := trivial
set_option maxRecDepth 20000 in
theorem tb_al_3 : mm_allL (fun q => (fun (o i : Nat) (t : Nat) => (∃ C, tb_tyl[t]? = some (.object C) ∧ Cond.classLink (tb_cn o) i C ∈ tb_TB ∧ Cond.arrayOver (.object C) ∈ tb_TB) ∨ (∃ y, tb_tyl[t]? = some (.array y) ∧ Cond.classLink (tb_cn o) i (FieldType.array y).toString ∈ tb_TB ∧ Cond.arrayOver (.array y) ∈ tb_TB)) 3 q.1 q.2) ((tb_AL[3]?).getD []) := trivial
set_option maxRecDepth 20000 in
theorem tb_al_4 : mm_allL (fun q => (fun (o i : Nat) (t : Nat) => (∃ C, tb_tyl[t]? = some (.object C) ∧ Cond.classLink (tb_cn o) i C ∈ tb_TB ∧ Cond.arrayOver (.object C) ∈ tb_TB) ∨ (∃ y, tb_tyl[t]? = some (.array y) ∧ Cond.classLink (tb_cn o) i (FieldType.array y).toString ∈ tb_TB ∧ Cond.arrayOver (.array y) ∈ tb_TB)) 4 q.1 q.2) ((tb_AL[4]?).getD []) := trivial
set_option maxRecDepth 20000 in
theorem tb_al_5 : mm_allL (fun q => (fun (o i : Nat) (t : Nat) => (∃ C, tb_tyl[t]? = some (.object C) ∧ Cond.classLink (tb_cn o) i C ∈ tb_TB ∧ Cond.arrayOver (.object C) ∈ tb_TB) ∨ (∃ y, tb_tyl[t]? = some (.array y) ∧ Cond.classLink (tb_cn o) i (FieldType.array y).toString ∈ tb_TB ∧ Cond.arrayOver (.array y) ∈ tb_TB)) 5 q.1 q.2) ((tb_AL[5]?).getD []) := ⟨Or.inl ⟨_, rfl, (tb_i1 (List.mem_of_getElem? (i := 141) rfl) rfl), (tb_i1 (List.mem_of_getElem? (i := 142) rfl) rfl)⟩,
  trivial⟩
set_option maxRecDepth 20000 in
theorem tb_al_6 : mm_allL (fun q => (fun (o i : Nat) (t : Nat) => (∃ C, tb_tyl[t]? = some (.object C) ∧ Cond.classLink (tb_cn o) i C ∈ tb_TB ∧ Cond.arrayOver (.object C) ∈ tb_TB) ∨ (∃ y, tb_tyl[t]? = some (.array y) ∧ Cond.classLink (tb_cn o) i (FieldType.array y).toString ∈ tb_TB ∧ Cond.arrayOver (.array y) ∈ tb_TB)) 6 q.1 q.2) ((tb_AL[6]?).getD []) := ⟨Or.inl ⟨_, rfl, (tb_i1 (List.mem_of_getElem? (i := 211) rfl) rfl), (tb_i1 (List.mem_of_getElem? (i := 142) rfl) rfl)⟩,
  Or.inl ⟨_, rfl, (tb_i1 (List.mem_of_getElem? (i := 212) rfl) rfl), (tb_i1 (List.mem_of_getElem? (i := 213) rfl) rfl)⟩,
  trivial⟩
set_option maxRecDepth 20000 in
theorem tb_al_7 : mm_allL (fun q => (fun (o i : Nat) (t : Nat) => (∃ C, tb_tyl[t]? = some (.object C) ∧ Cond.classLink (tb_cn o) i C ∈ tb_TB ∧ Cond.arrayOver (.object C) ∈ tb_TB) ∨ (∃ y, tb_tyl[t]? = some (.array y) ∧ Cond.classLink (tb_cn o) i (FieldType.array y).toString ∈ tb_TB ∧ Cond.arrayOver (.array y) ∈ tb_TB)) 7 q.1 q.2) ((tb_AL[7]?).getD []) := ⟨Or.inr ⟨_, rfl, (show Cond.classLink (tb_cn 7) 11 "[I" ∈ tb_TB from (tb_i2 (List.mem_of_getElem? (i := 27) rfl) rfl)), (tb_i2 (List.mem_of_getElem? (i := 28) rfl) rfl)⟩,
  trivial⟩
set_option maxRecDepth 20000 in
theorem tb_al_8 : mm_allL (fun q => (fun (o i : Nat) (t : Nat) => (∃ C, tb_tyl[t]? = some (.object C) ∧ Cond.classLink (tb_cn o) i C ∈ tb_TB ∧ Cond.arrayOver (.object C) ∈ tb_TB) ∨ (∃ y, tb_tyl[t]? = some (.array y) ∧ Cond.classLink (tb_cn o) i (FieldType.array y).toString ∈ tb_TB ∧ Cond.arrayOver (.array y) ∈ tb_TB)) 8 q.1 q.2) ((tb_AL[8]?).getD []) := trivial
set_option maxRecDepth 20000 in
theorem tb_al_9 : mm_allL (fun q => (fun (o i : Nat) (t : Nat) => (∃ C, tb_tyl[t]? = some (.object C) ∧ Cond.classLink (tb_cn o) i C ∈ tb_TB ∧ Cond.arrayOver (.object C) ∈ tb_TB) ∨ (∃ y, tb_tyl[t]? = some (.array y) ∧ Cond.classLink (tb_cn o) i (FieldType.array y).toString ∈ tb_TB ∧ Cond.arrayOver (.array y) ∈ tb_TB)) 9 q.1 q.2) ((tb_AL[9]?).getD []) := trivial
set_option maxRecDepth 20000 in
theorem tb_al_10 : mm_allL (fun q => (fun (o i : Nat) (t : Nat) => (∃ C, tb_tyl[t]? = some (.object C) ∧ Cond.classLink (tb_cn o) i C ∈ tb_TB ∧ Cond.arrayOver (.object C) ∈ tb_TB) ∨ (∃ y, tb_tyl[t]? = some (.array y) ∧ Cond.classLink (tb_cn o) i (FieldType.array y).toString ∈ tb_TB ∧ Cond.arrayOver (.array y) ∈ tb_TB)) 10 q.1 q.2) ((tb_AL[10]?).getD []) := trivial
set_option maxRecDepth 20000 in
theorem tb_al_11 : mm_allL (fun q => (fun (o i : Nat) (t : Nat) => (∃ C, tb_tyl[t]? = some (.object C) ∧ Cond.classLink (tb_cn o) i C ∈ tb_TB ∧ Cond.arrayOver (.object C) ∈ tb_TB) ∨ (∃ y, tb_tyl[t]? = some (.array y) ∧ Cond.classLink (tb_cn o) i (FieldType.array y).toString ∈ tb_TB ∧ Cond.arrayOver (.array y) ∈ tb_TB)) 11 q.1 q.2) ((tb_AL[11]?).getD []) := trivial
set_option maxRecDepth 20000 in
theorem tb_al_12 : mm_allL (fun q => (fun (o i : Nat) (t : Nat) => (∃ C, tb_tyl[t]? = some (.object C) ∧ Cond.classLink (tb_cn o) i C ∈ tb_TB ∧ Cond.arrayOver (.object C) ∈ tb_TB) ∨ (∃ y, tb_tyl[t]? = some (.array y) ∧ Cond.classLink (tb_cn o) i (FieldType.array y).toString ∈ tb_TB ∧ Cond.arrayOver (.array y) ∈ tb_TB)) 12 q.1 q.2) ((tb_AL[12]?).getD []) := trivial
set_option maxRecDepth 20000 in
theorem tb_al_13 : mm_allL (fun q => (fun (o i : Nat) (t : Nat) => (∃ C, tb_tyl[t]? = some (.object C) ∧ Cond.classLink (tb_cn o) i C ∈ tb_TB ∧ Cond.arrayOver (.object C) ∈ tb_TB) ∨ (∃ y, tb_tyl[t]? = some (.array y) ∧ Cond.classLink (tb_cn o) i (FieldType.array y).toString ∈ tb_TB ∧ Cond.arrayOver (.array y) ∈ tb_TB)) 13 q.1 q.2) ((tb_AL[13]?).getD []) := trivial
set_option maxRecDepth 20000 in
theorem tb_al_14 : mm_allL (fun q => (fun (o i : Nat) (t : Nat) => (∃ C, tb_tyl[t]? = some (.object C) ∧ Cond.classLink (tb_cn o) i C ∈ tb_TB ∧ Cond.arrayOver (.object C) ∈ tb_TB) ∨ (∃ y, tb_tyl[t]? = some (.array y) ∧ Cond.classLink (tb_cn o) i (FieldType.array y).toString ∈ tb_TB ∧ Cond.arrayOver (.array y) ∈ tb_TB)) 14 q.1 q.2) ((tb_AL[14]?).getD []) := trivial
set_option maxRecDepth 20000 in
theorem tb_al_15 : mm_allL (fun q => (fun (o i : Nat) (t : Nat) => (∃ C, tb_tyl[t]? = some (.object C) ∧ Cond.classLink (tb_cn o) i C ∈ tb_TB ∧ Cond.arrayOver (.object C) ∈ tb_TB) ∨ (∃ y, tb_tyl[t]? = some (.array y) ∧ Cond.classLink (tb_cn o) i (FieldType.array y).toString ∈ tb_TB ∧ Cond.arrayOver (.array y) ∈ tb_TB)) 15 q.1 q.2) ((tb_AL[15]?).getD []) := trivial
set_option maxRecDepth 20000 in
theorem tb_al_16 : mm_allL (fun q => (fun (o i : Nat) (t : Nat) => (∃ C, tb_tyl[t]? = some (.object C) ∧ Cond.classLink (tb_cn o) i C ∈ tb_TB ∧ Cond.arrayOver (.object C) ∈ tb_TB) ∨ (∃ y, tb_tyl[t]? = some (.array y) ∧ Cond.classLink (tb_cn o) i (FieldType.array y).toString ∈ tb_TB ∧ Cond.arrayOver (.array y) ∈ tb_TB)) 16 q.1 q.2) ((tb_AL[16]?).getD []) := trivial
set_option maxRecDepth 20000 in
theorem tb_al_17 : mm_allL (fun q => (fun (o i : Nat) (t : Nat) => (∃ C, tb_tyl[t]? = some (.object C) ∧ Cond.classLink (tb_cn o) i C ∈ tb_TB ∧ Cond.arrayOver (.object C) ∈ tb_TB) ∨ (∃ y, tb_tyl[t]? = some (.array y) ∧ Cond.classLink (tb_cn o) i (FieldType.array y).toString ∈ tb_TB ∧ Cond.arrayOver (.array y) ∈ tb_TB)) 17 q.1 q.2) ((tb_AL[17]?).getD []) := trivial
set_option maxRecDepth 20000 in
theorem tb_al_all : mm_all2P (fun (o i : Nat) (t : Nat) => (∃ C, tb_tyl[t]? = some (.object C) ∧ Cond.classLink (tb_cn o) i C ∈ tb_TB ∧ Cond.arrayOver (.object C) ∈ tb_TB) ∨ (∃ y, tb_tyl[t]? = some (.array y) ∧ Cond.classLink (tb_cn o) i (FieldType.array y).toString ∈ tb_TB ∧ Cond.arrayOver (.array y) ∈ tb_TB)) 0 tb_AL := ⟨tb_al_0, tb_al_1, tb_al_2, tb_al_3, tb_al_4, tb_al_5, tb_al_6, tb_al_7, tb_al_8, tb_al_9, tb_al_10, tb_al_11, tb_al_12, tb_al_13, tb_al_14, tb_al_15, tb_al_16, tb_al_17, trivial⟩
set_option maxRecDepth 20000 in
theorem tb_ci_0 : mm_allL (fun q => (fun (o i : Nat) (v : Int32) => Cond.constant (tb_cn o) i v ∈ tb_TB) 0 q.1 q.2) ((tb_CI[0]?).getD []) := ⟨(tb_i6 (List.mem_of_getElem? (i := 128) rfl) rfl),
  (tb_i6 (List.mem_of_getElem? (i := 129) rfl) rfl),
  (tb_i7 (List.mem_of_getElem? (i := 112) rfl) rfl),
  trivial⟩
set_option maxRecDepth 20000 in
theorem tb_ci_1 : mm_allL (fun q => (fun (o i : Nat) (v : Int32) => Cond.constant (tb_cn o) i v ∈ tb_TB) 1 q.1 q.2) ((tb_CI[1]?).getD []) := trivial
set_option maxRecDepth 20000 in
theorem tb_ci_2 : mm_allL (fun q => (fun (o i : Nat) (v : Int32) => Cond.constant (tb_cn o) i v ∈ tb_TB) 2 q.1 q.2) ((tb_CI[2]?).getD []) := trivial
set_option maxRecDepth 20000 in
theorem tb_ci_3 : mm_allL (fun q => (fun (o i : Nat) (v : Int32) => Cond.constant (tb_cn o) i v ∈ tb_TB) 3 q.1 q.2) ((tb_CI[3]?).getD []) := trivial
set_option maxRecDepth 20000 in
theorem tb_ci_4 : mm_allL (fun q => (fun (o i : Nat) (v : Int32) => Cond.constant (tb_cn o) i v ∈ tb_TB) 4 q.1 q.2) ((tb_CI[4]?).getD []) := trivial
set_option maxRecDepth 20000 in
theorem tb_ci_5 : mm_allL (fun q => (fun (o i : Nat) (v : Int32) => Cond.constant (tb_cn o) i v ∈ tb_TB) 5 q.1 q.2) ((tb_CI[5]?).getD []) := trivial
set_option maxRecDepth 20000 in
theorem tb_ci_6 : mm_allL (fun q => (fun (o i : Nat) (v : Int32) => Cond.constant (tb_cn o) i v ∈ tb_TB) 6 q.1 q.2) ((tb_CI[6]?).getD []) := trivial
set_option maxRecDepth 20000 in
theorem tb_ci_7 : mm_allL (fun q => (fun (o i : Nat) (v : Int32) => Cond.constant (tb_cn o) i v ∈ tb_TB) 7 q.1 q.2) ((tb_CI[7]?).getD []) := trivial
set_option maxRecDepth 20000 in
theorem tb_ci_8 : mm_allL (fun q => (fun (o i : Nat) (v : Int32) => Cond.constant (tb_cn o) i v ∈ tb_TB) 8 q.1 q.2) ((tb_CI[8]?).getD []) := trivial
set_option maxRecDepth 20000 in
theorem tb_ci_9 : mm_allL (fun q => (fun (o i : Nat) (v : Int32) => Cond.constant (tb_cn o) i v ∈ tb_TB) 9 q.1 q.2) ((tb_CI[9]?).getD []) := trivial
set_option maxRecDepth 20000 in
theorem tb_ci_10 : mm_allL (fun q => (fun (o i : Nat) (v : Int32) => Cond.constant (tb_cn o) i v ∈ tb_TB) 10 q.1 q.2) ((tb_CI[10]?).getD []) := trivial
set_option maxRecDepth 20000 in
theorem tb_ci_11 : mm_allL (fun q => (fun (o i : Nat) (v : Int32) => Cond.constant (tb_cn o) i v ∈ tb_TB) 11 q.1 q.2) ((tb_CI[11]?).getD []) := trivial
set_option maxRecDepth 20000 in
theorem tb_ci_12 : mm_allL (fun q => (fun (o i : Nat) (v : Int32) => Cond.constant (tb_cn o) i v ∈ tb_TB) 12 q.1 q.2) ((tb_CI[12]?).getD []) := trivial
set_option maxRecDepth 20000 in
theorem tb_ci_13 : mm_allL (fun q => (fun (o i : Nat) (v : Int32) => Cond.constant (tb_cn o) i v ∈ tb_TB) 13 q.1 q.2) ((tb_CI[13]?).getD []) := trivial
set_option maxRecDepth 20000 in
theorem tb_ci_14 : mm_allL (fun q => (fun (o i : Nat) (v : Int32) => Cond.constant (tb_cn o) i v ∈ tb_TB) 14 q.1 q.2) ((tb_CI[14]?).getD []) := trivial
set_option maxRecDepth 20000 in
theorem tb_ci_15 : mm_allL (fun q => (fun (o i : Nat) (v : Int32) => Cond.constant (tb_cn o) i v ∈ tb_TB) 15 q.1 q.2) ((tb_CI[15]?).getD []) := trivial
set_option maxRecDepth 20000 in
theorem tb_ci_16 : mm_allL (fun q => (fun (o i : Nat) (v : Int32) => Cond.constant (tb_cn o) i v ∈ tb_TB) 16 q.1 q.2) ((tb_CI[16]?).getD []) := trivial
set_option maxRecDepth 20000 in
theorem tb_ci_17 : mm_allL (fun q => (fun (o i : Nat) (v : Int32) => Cond.constant (tb_cn o) i v ∈ tb_TB) 17 q.1 q.2) ((tb_CI[17]?).getD []) := trivial
set_option maxRecDepth 20000 in
theorem tb_ci_all : mm_all2P (fun (o i : Nat) (v : Int32) => Cond.constant (tb_cn o) i v ∈ tb_TB) 0 tb_CI := ⟨tb_ci_0, tb_ci_1, tb_ci_2, tb_ci_3, tb_ci_4, tb_ci_5, tb_ci_6, tb_ci_7, tb_ci_8, tb_ci_9, tb_ci_10, tb_ci_11, tb_ci_12, tb_ci_13, tb_ci_14, tb_ci_15, tb_ci_16, tb_ci_17, trivial⟩
set_option maxRecDepth 20000 in
theorem tb_cl_0 : mm_allL (fun q => (fun (o i : Nat) (v : Int64) => Cond.constantLong (tb_cn o) i v ∈ tb_TB) 0 q.1 q.2) ((tb_CL[0]?).getD []) := trivial
set_option maxRecDepth 20000 in
theorem tb_cl_1 : mm_allL (fun q => (fun (o i : Nat) (v : Int64) => Cond.constantLong (tb_cn o) i v ∈ tb_TB) 1 q.1 q.2) ((tb_CL[1]?).getD []) := trivial
set_option maxRecDepth 20000 in
theorem tb_cl_2 : mm_allL (fun q => (fun (o i : Nat) (v : Int64) => Cond.constantLong (tb_cn o) i v ∈ tb_TB) 2 q.1 q.2) ((tb_CL[2]?).getD []) := trivial
set_option maxRecDepth 20000 in
theorem tb_cl_3 : mm_allL (fun q => (fun (o i : Nat) (v : Int64) => Cond.constantLong (tb_cn o) i v ∈ tb_TB) 3 q.1 q.2) ((tb_CL[3]?).getD []) := ⟨(tb_i5 (List.mem_of_getElem? (i := 110) rfl) rfl),
  (tb_i5 (List.mem_of_getElem? (i := 111) rfl) rfl),
  trivial⟩
set_option maxRecDepth 20000 in
theorem tb_cl_4 : mm_allL (fun q => (fun (o i : Nat) (v : Int64) => Cond.constantLong (tb_cn o) i v ∈ tb_TB) 4 q.1 q.2) ((tb_CL[4]?).getD []) := trivial
set_option maxRecDepth 20000 in
theorem tb_cl_5 : mm_allL (fun q => (fun (o i : Nat) (v : Int64) => Cond.constantLong (tb_cn o) i v ∈ tb_TB) 5 q.1 q.2) ((tb_CL[5]?).getD []) := trivial
set_option maxRecDepth 20000 in
theorem tb_cl_6 : mm_allL (fun q => (fun (o i : Nat) (v : Int64) => Cond.constantLong (tb_cn o) i v ∈ tb_TB) 6 q.1 q.2) ((tb_CL[6]?).getD []) := trivial
set_option maxRecDepth 20000 in
theorem tb_cl_7 : mm_allL (fun q => (fun (o i : Nat) (v : Int64) => Cond.constantLong (tb_cn o) i v ∈ tb_TB) 7 q.1 q.2) ((tb_CL[7]?).getD []) := trivial
set_option maxRecDepth 20000 in
theorem tb_cl_8 : mm_allL (fun q => (fun (o i : Nat) (v : Int64) => Cond.constantLong (tb_cn o) i v ∈ tb_TB) 8 q.1 q.2) ((tb_CL[8]?).getD []) := trivial
set_option maxRecDepth 20000 in
theorem tb_cl_9 : mm_allL (fun q => (fun (o i : Nat) (v : Int64) => Cond.constantLong (tb_cn o) i v ∈ tb_TB) 9 q.1 q.2) ((tb_CL[9]?).getD []) := trivial
set_option maxRecDepth 20000 in
theorem tb_cl_10 : mm_allL (fun q => (fun (o i : Nat) (v : Int64) => Cond.constantLong (tb_cn o) i v ∈ tb_TB) 10 q.1 q.2) ((tb_CL[10]?).getD []) := trivial
set_option maxRecDepth 20000 in
theorem tb_cl_11 : mm_allL (fun q => (fun (o i : Nat) (v : Int64) => Cond.constantLong (tb_cn o) i v ∈ tb_TB) 11 q.1 q.2) ((tb_CL[11]?).getD []) := trivial
set_option maxRecDepth 20000 in
theorem tb_cl_12 : mm_allL (fun q => (fun (o i : Nat) (v : Int64) => Cond.constantLong (tb_cn o) i v ∈ tb_TB) 12 q.1 q.2) ((tb_CL[12]?).getD []) := ⟨(tb_i10 (List.mem_of_getElem? (i := 74) rfl) rfl),
  (tb_i10 (List.mem_of_getElem? (i := 75) rfl) rfl),
  (tb_i10 (List.mem_of_getElem? (i := 100) rfl) rfl),
  (tb_i10 (List.mem_of_getElem? (i := 101) rfl) rfl),
  (tb_i11 (List.mem_of_getElem? (i := 50) rfl) rfl),
  (tb_i11 (List.mem_of_getElem? (i := 84) rfl) rfl),
  (tb_i11 (List.mem_of_getElem? (i := 101) rfl) rfl),
  (tb_i11 (List.mem_of_getElem? (i := 106) rfl) rfl),
  (tb_i11 (List.mem_of_getElem? (i := 160) rfl) rfl),
  (tb_i11 (List.mem_of_getElem? (i := 173) rfl) rfl),
  (tb_i11 (List.mem_of_getElem? (i := 174) rfl) rfl),
  trivial⟩
set_option maxRecDepth 20000 in
theorem tb_cl_13 : mm_allL (fun q => (fun (o i : Nat) (v : Int64) => Cond.constantLong (tb_cn o) i v ∈ tb_TB) 13 q.1 q.2) ((tb_CL[13]?).getD []) := trivial
set_option maxRecDepth 20000 in
theorem tb_cl_14 : mm_allL (fun q => (fun (o i : Nat) (v : Int64) => Cond.constantLong (tb_cn o) i v ∈ tb_TB) 14 q.1 q.2) ((tb_CL[14]?).getD []) := trivial
set_option maxRecDepth 20000 in
theorem tb_cl_15 : mm_allL (fun q => (fun (o i : Nat) (v : Int64) => Cond.constantLong (tb_cn o) i v ∈ tb_TB) 15 q.1 q.2) ((tb_CL[15]?).getD []) := trivial
set_option maxRecDepth 20000 in
theorem tb_cl_16 : mm_allL (fun q => (fun (o i : Nat) (v : Int64) => Cond.constantLong (tb_cn o) i v ∈ tb_TB) 16 q.1 q.2) ((tb_CL[16]?).getD []) := trivial
set_option maxRecDepth 20000 in
theorem tb_cl_17 : mm_allL (fun q => (fun (o i : Nat) (v : Int64) => Cond.constantLong (tb_cn o) i v ∈ tb_TB) 17 q.1 q.2) ((tb_CL[17]?).getD []) := trivial
set_option maxRecDepth 20000 in
theorem tb_cl_all : mm_all2P (fun (o i : Nat) (v : Int64) => Cond.constantLong (tb_cn o) i v ∈ tb_TB) 0 tb_CL := ⟨tb_cl_0, tb_cl_1, tb_cl_2, tb_cl_3, tb_cl_4, tb_cl_5, tb_cl_6, tb_cl_7, tb_cl_8, tb_cl_9, tb_cl_10, tb_cl_11, tb_cl_12, tb_cl_13, tb_cl_14, tb_cl_15, tb_cl_16, tb_cl_17, trivial⟩
theorem tb_ac : Cond.arrayClass .int ∈ tb_TB ∧ Cond.arrayClass .long ∈ tb_TB ∧ Cond.arrayClass .char ∈ tb_TB ∧ Cond.arrayClass .boolean ∈ tb_TB := ⟨(tb_i1 (List.mem_of_getElem? (i := 77) rfl) rfl), (tb_i1 (List.mem_of_getElem? (i := 137) rfl) rfl), (tb_i1 (List.mem_of_getElem? (i := 76) rfl) rfl), (tb_i2 (List.mem_of_getElem? (i := 53) rfl) rfl)⟩
theorem tb_c0 : (fun (ci : Nat) (r : vw_C) => (∀ w ∈ u_ws r.1 r.2.1 r.2.2, w ∈ tb_TB) ∧ (∀ j, j < r.2.2 → parseFieldDescriptor (r.2.1 j).2.2.1 = some (tb_ft ci j).1 ∧ (r.2.1 j).2.2.2 = (tb_ft ci j).2 ∧ (r.2.1 j).1 = r.1) ∧ (∀ a, a < r.2.2 → ∀ b, b < r.2.2 → a ≠ b → (r.2.1 a).2.1 ≠ (r.2.1 b).2.1) ∧ (0 < r.2.2 → tb_cn ci = r.1)) 0 ("IndexedCompiler", tb_T0, 12) := ⟨mm_allL_mem tb_w0, fun j hj => mm_allL_mem tb_f0 j (List.mem_range.mpr hj), mm_apart tb_n0 (mm_allL_mem tb_m0), fun _ => rfl⟩
theorem tb_c1 : (fun (ci : Nat) (r : vw_C) => (∀ w ∈ u_ws r.1 r.2.1 r.2.2, w ∈ tb_TB) ∧ (∀ j, j < r.2.2 → parseFieldDescriptor (r.2.1 j).2.2.1 = some (tb_ft ci j).1 ∧ (r.2.1 j).2.2.2 = (tb_ft ci j).2 ∧ (r.2.1 j).1 = r.1) ∧ (∀ a, a < r.2.2 → ∀ b, b < r.2.2 → a ≠ b → (r.2.1 a).2.1 ≠ (r.2.1 b).2.1) ∧ (0 < r.2.2 → tb_cn ci = r.1)) 1 ("IndexedCompiler$Line", tb_T1, 10) := ⟨mm_allL_mem tb_w1, fun j hj => mm_allL_mem tb_f1 j (List.mem_range.mpr hj), mm_apart tb_n1 (mm_allL_mem tb_m1), fun _ => rfl⟩
theorem tb_c2 : (fun (ci : Nat) (r : vw_C) => (∀ w ∈ u_ws r.1 r.2.1 r.2.2, w ∈ tb_TB) ∧ (∀ j, j < r.2.2 → parseFieldDescriptor (r.2.1 j).2.2.1 = some (tb_ft ci j).1 ∧ (r.2.1 j).2.2.2 = (tb_ft ci j).2 ∧ (r.2.1 j).1 = r.1) ∧ (∀ a, a < r.2.2 → ∀ b, b < r.2.2 → a ≠ b → (r.2.1 a).2.1 ≠ (r.2.1 b).2.1) ∧ (0 < r.2.2 → tb_cn ci = r.1)) 2 ("IndexedCompiler$Reader", tb_T2, 3) := ⟨mm_allL_mem tb_w2, fun j hj => mm_allL_mem tb_f2 j (List.mem_range.mpr hj), mm_apart tb_n2 (mm_allL_mem tb_m2), fun _ => rfl⟩
theorem tb_c3 : (fun (ci : Nat) (r : vw_C) => (∀ w ∈ u_ws r.1 r.2.1 r.2.2, w ∈ tb_TB) ∧ (∀ j, j < r.2.2 → parseFieldDescriptor (r.2.1 j).2.2.1 = some (tb_ft ci j).1 ∧ (r.2.1 j).2.2.2 = (tb_ft ci j).2 ∧ (r.2.1 j).1 = r.1) ∧ (∀ a, a < r.2.2 → ∀ b, b < r.2.2 → a ≠ b → (r.2.1 a).2.1 ≠ (r.2.1 b).2.1) ∧ (0 < r.2.2 → tb_cn ci = r.1)) 3 ("IndexedCompiler$Solver", tb_T3, 7) := ⟨mm_allL_mem tb_w3, fun j hj => mm_allL_mem tb_f3 j (List.mem_range.mpr hj), mm_apart tb_n3 (mm_allL_mem tb_m3), fun _ => rfl⟩
theorem tb_c4 : (fun (ci : Nat) (r : vw_C) => (∀ w ∈ u_ws r.1 r.2.1 r.2.2, w ∈ tb_TB) ∧ (∀ j, j < r.2.2 → parseFieldDescriptor (r.2.1 j).2.2.1 = some (tb_ft ci j).1 ∧ (r.2.1 j).2.2.2 = (tb_ft ci j).2 ∧ (r.2.1 j).1 = r.1) ∧ (∀ a, a < r.2.2 → ∀ b, b < r.2.2 → a ≠ b → (r.2.1 a).2.1 ≠ (r.2.1 b).2.1) ∧ (0 < r.2.2 → tb_cn ci = r.1)) 4 ("IndexedCompiler$Expression", tb_T4, 2) := ⟨mm_allL_mem tb_w4, fun j hj => mm_allL_mem tb_f4 j (List.mem_range.mpr hj), mm_apart tb_n4 (mm_allL_mem tb_m4), fun _ => rfl⟩
theorem tb_c5 : (fun (ci : Nat) (r : vw_C) => (∀ w ∈ u_ws r.1 r.2.1 r.2.2, w ∈ tb_TB) ∧ (∀ j, j < r.2.2 → parseFieldDescriptor (r.2.1 j).2.2.1 = some (tb_ft ci j).1 ∧ (r.2.1 j).2.2.2 = (tb_ft ci j).2 ∧ (r.2.1 j).1 = r.1) ∧ (∀ a, a < r.2.2 → ∀ b, b < r.2.2 → a ≠ b → (r.2.1 a).2.1 ≠ (r.2.1 b).2.1) ∧ (0 < r.2.2 → tb_cn ci = r.1)) 5 ("IndexedCompiler$Ground", tb_T5, 14) := ⟨mm_allL_mem tb_w5, fun j hj => mm_allL_mem tb_f5 j (List.mem_range.mpr hj), mm_apart tb_n5 (mm_allL_mem tb_m5), fun _ => rfl⟩
theorem tb_c6 : (fun (ci : Nat) (r : vw_C) => (∀ w ∈ u_ws r.1 r.2.1 r.2.2, w ∈ tb_TB) ∧ (∀ j, j < r.2.2 → parseFieldDescriptor (r.2.1 j).2.2.1 = some (tb_ft ci j).1 ∧ (r.2.1 j).2.2.2 = (tb_ft ci j).2 ∧ (r.2.1 j).1 = r.1) ∧ (∀ a, a < r.2.2 → ∀ b, b < r.2.2 → a ≠ b → (r.2.1 a).2.1 ≠ (r.2.1 b).2.1) ∧ (0 < r.2.2 → tb_cn ci = r.1)) 6 ("IndexedCompiler$Checker", tb_T6, 15) := ⟨mm_allL_mem tb_w6, fun j hj => mm_allL_mem tb_f6 j (List.mem_range.mpr hj), mm_apart tb_n6 (mm_allL_mem tb_m6), fun _ => rfl⟩
theorem tb_c7 : (fun (ci : Nat) (r : vw_C) => (∀ w ∈ u_ws r.1 r.2.1 r.2.2, w ∈ tb_TB) ∧ (∀ j, j < r.2.2 → parseFieldDescriptor (r.2.1 j).2.2.1 = some (tb_ft ci j).1 ∧ (r.2.1 j).2.2.2 = (tb_ft ci j).2 ∧ (r.2.1 j).1 = r.1) ∧ (∀ a, a < r.2.2 → ∀ b, b < r.2.2 → a ≠ b → (r.2.1 a).2.1 ≠ (r.2.1 b).2.1) ∧ (0 < r.2.2 → tb_cn ci = r.1)) 7 ("IndexedCompiler$Coder", tb_T7, 7) := ⟨mm_allL_mem tb_w7, fun j hj => mm_allL_mem tb_f7 j (List.mem_range.mpr hj), mm_apart tb_n7 (mm_allL_mem tb_m7), fun _ => rfl⟩
theorem tb_c8 : (fun (ci : Nat) (r : vw_C) => (∀ w ∈ u_ws r.1 r.2.1 r.2.2, w ∈ tb_TB) ∧ (∀ j, j < r.2.2 → parseFieldDescriptor (r.2.1 j).2.2.1 = some (tb_ft ci j).1 ∧ (r.2.1 j).2.2.2 = (tb_ft ci j).2 ∧ (r.2.1 j).1 = r.1) ∧ (∀ a, a < r.2.2 → ∀ b, b < r.2.2 → a ≠ b → (r.2.1 a).2.1 ≠ (r.2.1 b).2.1) ∧ (0 < r.2.2 → tb_cn ci = r.1)) 8 ("IndexedCompiler$Slots", tb_T8, 4) := ⟨mm_allL_mem tb_w8, fun j hj => mm_allL_mem tb_f8 j (List.mem_range.mpr hj), mm_apart tb_n8 (mm_allL_mem tb_m8), fun _ => rfl⟩
theorem tb_c9 : (fun (ci : Nat) (r : vw_C) => (∀ w ∈ u_ws r.1 r.2.1 r.2.2, w ∈ tb_TB) ∧ (∀ j, j < r.2.2 → parseFieldDescriptor (r.2.1 j).2.2.1 = some (tb_ft ci j).1 ∧ (r.2.1 j).2.2.2 = (tb_ft ci j).2 ∧ (r.2.1 j).1 = r.1) ∧ (∀ a, a < r.2.2 → ∀ b, b < r.2.2 → a ≠ b → (r.2.1 a).2.1 ≠ (r.2.1 b).2.1) ∧ (0 < r.2.2 → tb_cn ci = r.1)) 9 ("IndexedCompiler$Machine", tb_T9, 14) := ⟨mm_allL_mem tb_w9, fun j hj => mm_allL_mem tb_f9 j (List.mem_range.mpr hj), mm_apart tb_n9 (mm_allL_mem tb_m9), fun _ => rfl⟩
theorem tb_c10 : (fun (ci : Nat) (r : vw_C) => (∀ w ∈ u_ws r.1 r.2.1 r.2.2, w ∈ tb_TB) ∧ (∀ j, j < r.2.2 → parseFieldDescriptor (r.2.1 j).2.2.1 = some (tb_ft ci j).1 ∧ (r.2.1 j).2.2.2 = (tb_ft ci j).2 ∧ (r.2.1 j).1 = r.1) ∧ (∀ a, a < r.2.2 → ∀ b, b < r.2.2 → a ≠ b → (r.2.1 a).2.1 ≠ (r.2.1 b).2.1) ∧ (0 < r.2.2 → tb_cn ci = r.1)) 10 ("IndexedCompiler$Tree", tb_T10, 11) := ⟨mm_allL_mem tb_w10, fun j hj => mm_allL_mem tb_f10 j (List.mem_range.mpr hj), mm_apart tb_n10 (mm_allL_mem tb_m10), fun _ => rfl⟩
theorem tb_c11 : (fun (ci : Nat) (r : vw_C) => (∀ w ∈ u_ws r.1 r.2.1 r.2.2, w ∈ tb_TB) ∧ (∀ j, j < r.2.2 → parseFieldDescriptor (r.2.1 j).2.2.1 = some (tb_ft ci j).1 ∧ (r.2.1 j).2.2.2 = (tb_ft ci j).2 ∧ (r.2.1 j).1 = r.1) ∧ (∀ a, a < r.2.2 → ∀ b, b < r.2.2 → a ≠ b → (r.2.1 a).2.1 ≠ (r.2.1 b).2.1) ∧ (0 < r.2.2 → tb_cn ci = r.1)) 11 ("IndexedCompiler$Shape", tb_T11, 5) := ⟨mm_allL_mem tb_w11, fun j hj => mm_allL_mem tb_f11 j (List.mem_range.mpr hj), mm_apart tb_n11 (mm_allL_mem tb_m11), fun _ => rfl⟩
theorem tb_c12 : (fun (ci : Nat) (r : vw_C) => (∀ w ∈ u_ws r.1 r.2.1 r.2.2, w ∈ tb_TB) ∧ (∀ j, j < r.2.2 → parseFieldDescriptor (r.2.1 j).2.2.1 = some (tb_ft ci j).1 ∧ (r.2.1 j).2.2.2 = (tb_ft ci j).2 ∧ (r.2.1 j).1 = r.1) ∧ (∀ a, a < r.2.2 → ∀ b, b < r.2.2 → a ≠ b → (r.2.1 a).2.1 ≠ (r.2.1 b).2.1) ∧ (0 < r.2.2 → tb_cn ci = r.1)) 12 ("IndexedCompilerModel", tb_T12, 145) := ⟨mm_allL_mem tb_w12, fun j hj => mm_allL_mem tb_f12 j (List.mem_range.mpr hj), mm_apart tb_n12 (mm_allL_mem tb_m12), fun _ => rfl⟩
theorem tb_c13 : (fun (ci : Nat) (r : vw_C) => (∀ w ∈ u_ws r.1 r.2.1 r.2.2, w ∈ tb_TB) ∧ (∀ j, j < r.2.2 → parseFieldDescriptor (r.2.1 j).2.2.1 = some (tb_ft ci j).1 ∧ (r.2.1 j).2.2.2 = (tb_ft ci j).2 ∧ (r.2.1 j).1 = r.1) ∧ (∀ a, a < r.2.2 → ∀ b, b < r.2.2 → a ≠ b → (r.2.1 a).2.1 ≠ (r.2.1 b).2.1) ∧ (0 < r.2.2 → tb_cn ci = r.1)) 13 ("java/lang/IllegalStateException", tb_TX, 0) := ⟨fun w hw => (List.not_mem_nil hw).elim, fun j hj => (Nat.not_lt_zero _ hj).elim, fun a ha => (Nat.not_lt_zero _ ha).elim, fun h => (Nat.not_lt_zero _ h).elim⟩
theorem tb_c14 : (fun (ci : Nat) (r : vw_C) => (∀ w ∈ u_ws r.1 r.2.1 r.2.2, w ∈ tb_TB) ∧ (∀ j, j < r.2.2 → parseFieldDescriptor (r.2.1 j).2.2.1 = some (tb_ft ci j).1 ∧ (r.2.1 j).2.2.2 = (tb_ft ci j).2 ∧ (r.2.1 j).1 = r.1) ∧ (∀ a, a < r.2.2 → ∀ b, b < r.2.2 → a ≠ b → (r.2.1 a).2.1 ≠ (r.2.1 b).2.1) ∧ (0 < r.2.2 → tb_cn ci = r.1)) 14 ("java/lang/IllegalArgumentException", tb_TX, 0) := ⟨fun w hw => (List.not_mem_nil hw).elim, fun j hj => (Nat.not_lt_zero _ hj).elim, fun a ha => (Nat.not_lt_zero _ ha).elim, fun h => (Nat.not_lt_zero _ h).elim⟩
theorem tb_call : mm_all1P (fun (ci : Nat) (r : vw_C) => (∀ w ∈ u_ws r.1 r.2.1 r.2.2, w ∈ tb_TB) ∧ (∀ j, j < r.2.2 → parseFieldDescriptor (r.2.1 j).2.2.1 = some (tb_ft ci j).1 ∧ (r.2.1 j).2.2.2 = (tb_ft ci j).2 ∧ (r.2.1 j).1 = r.1) ∧ (∀ a, a < r.2.2 → ∀ b, b < r.2.2 → a ≠ b → (r.2.1 a).2.1 ≠ (r.2.1 b).2.1) ∧ (0 < r.2.2 → tb_cn ci = r.1)) 0 tb_cl := ⟨tb_c0, tb_c1, tb_c2, tb_c3, tb_c4, tb_c5, tb_c6, tb_c7, tb_c8, tb_c9, tb_c10, tb_c11, tb_c12, tb_c13, tb_c14, trivial⟩
theorem tb_ok2 : mm_ok2 tb_P tb_TB tb_cl tb_tyl tb_cn :=
  ⟨fun ci C T N h => Nat.zero_add ci ▸ mm_all1P_ok tb_call h, fun o i ci j h => Nat.zero_add o ▸ mm_all2P_ok tb_fl_all h, fun o i ci dv h => Nat.zero_add o ▸ mm_all2P_ok tb_nl_all h, fun o i t h => Nat.zero_add o ▸ mm_all2P_ok tb_al_all h,
  (fun y t a0 h => by cases y <;> first | (cases h; done) | (cases h; exact ⟨rfl, tb_ac.1⟩) | (cases h; exact ⟨rfl, tb_ac.2.1⟩) | (cases h; exact ⟨rfl, tb_ac.2.2.1⟩) | (cases h; exact ⟨rfl, tb_ac.2.2.2⟩)),
  fun o i v h => Nat.zero_add o ▸ mm_all2P_ok tb_ci_all h, fun o i v h => Nat.zero_add o ▸ mm_all2P_ok tb_cl_all h, ⟨rfl, by
    intro t h1 h2
    have h2 : t < 8 := h2
    have : t = 4 ∨ t = 5 ∨ t = 6 ∨ t = 7 := by omega
    rcases this with rfl | rfl | rfl | rfl <;> exact ⟨_, rfl, rfl⟩⟩, fun t ci h => by
    have hm := mm_fd_mem h
    simp only [List.mem_cons, List.not_mem_nil, or_false, Prod.mk.injEq] at hm
    rcases hm with ⟨rfl, rfl⟩ | ⟨rfl, rfl⟩ | ⟨rfl, rfl⟩ <;> exact ⟨_, rfl, rfl⟩⟩
end
section
/-! THE TABLES TELL THE TRUTH (calls, throws). -/
set_option maxRecDepth 20000 in
theorem tb_eall : mm_allL (fun q : ByteArray × List (Nat × Instr) => ∀ r ∈ q.2, decode q.1 r.1 = .ok (r.2, mm_ln r.2)) tb_KX := ⟨tb_e0, tb_e1, tb_e2, tb_e3, tb_e4, tb_e5, tb_e6, tb_e7, tb_e8, tb_e9, tb_e10, tb_e11, tb_e12, tb_e13, tb_e14, tb_e15, tb_e16, tb_e17, tb_e18, tb_e19, tb_e20, tb_e21, tb_e22, tb_e23, tb_e24, tb_e25, tb_e26, tb_e27, tb_e28, tb_e29, tb_e30, tb_e31, tb_e32, tb_e33, tb_e34, tb_e35, tb_e36, tb_e37, tb_e38, tb_e39, tb_e40, tb_e41, tb_e42, tb_e43, tb_e44, tb_e45, tb_e46, tb_e47, tb_e48, tb_e49, tb_e50, tb_e51, tb_e52, tb_e53, tb_e54, tb_e55, tb_e56, tb_e57, tb_e58, tb_e59, tb_e60, tb_e61, tb_e62, tb_e63, tb_e64, tb_e65, tb_e66, tb_e67, tb_e68, tb_e69, tb_e70, tb_e71, tb_e72, tb_e73, tb_e74, tb_e75, tb_e76, tb_e77, tb_e78, tb_e79, tb_e80, tb_e81, tb_e82, tb_e83, tb_e84, tb_e85, tb_e86, tb_e87, tb_e88, tb_e89, tb_e90, tb_e91, tb_e92, tb_e93, tb_e94, tb_e95, tb_e96, tb_e97, tb_e98, tb_e99, tb_e100, tb_e101, tb_e102, tb_e103, tb_e104, tb_e105, tb_e106, tb_e107, tb_e108, tb_e109, tb_e110, tb_e111, tb_e112, tb_e113, tb_e114, tb_e115, tb_e116, tb_e117, tb_e118, tb_e119, tb_e120, tb_e121, tb_e122, tb_e123, tb_e124, tb_e125, tb_e126, tb_e127, tb_e128, tb_e129, tb_e130, tb_e131, tb_e132, tb_e133, tb_e134, tb_e135, trivial⟩
theorem tb_dec (k : Nat) (q : Nat × Instr) (h : q ∈ tb_kd k) : decode (tb_kb k) q.1 = .ok (q.2, mm_ln q.2) := by
  unfold tb_kd at h
  unfold tb_kb
  cases hk : tb_KX[k]? with
  | none => rw [hk] at h; exact (List.not_mem_nil h).elim
  | some r => rw [hk] at h; exact mm_allL_mem tb_eall r (List.mem_of_getElem? hk) q h
theorem tb_s0 : mm_allL (fun q => mm_swc (tb_kb 0) q.1 q.2 = true) ((tb_SW[0]?).getD []) := ⟨by decide +kernel, trivial⟩
theorem tb_s1 : mm_allL (fun q => mm_swc (tb_kb 1) q.1 q.2 = true) ((tb_SW[1]?).getD []) := trivial
theorem tb_s2 : mm_allL (fun q => mm_swc (tb_kb 2) q.1 q.2 = true) ((tb_SW[2]?).getD []) := trivial
theorem tb_s3 : mm_allL (fun q => mm_swc (tb_kb 3) q.1 q.2 = true) ((tb_SW[3]?).getD []) := trivial
theorem tb_s4 : mm_allL (fun q => mm_swc (tb_kb 4) q.1 q.2 = true) ((tb_SW[4]?).getD []) := trivial
theorem tb_s5 : mm_allL (fun q => mm_swc (tb_kb 5) q.1 q.2 = true) ((tb_SW[5]?).getD []) := trivial
theorem tb_s6 : mm_allL (fun q => mm_swc (tb_kb 6) q.1 q.2 = true) ((tb_SW[6]?).getD []) := trivial
theorem tb_s7 : mm_allL (fun q => mm_swc (tb_kb 7) q.1 q.2 = true) ((tb_SW[7]?).getD []) := trivial
theorem tb_s8 : mm_allL (fun q => mm_swc (tb_kb 8) q.1 q.2 = true) ((tb_SW[8]?).getD []) := trivial
theorem tb_s9 : mm_allL (fun q => mm_swc (tb_kb 9) q.1 q.2 = true) ((tb_SW[9]?).getD []) := trivial
theorem tb_s10 : mm_allL (fun q => mm_swc (tb_kb 10) q.1 q.2 = true) ((tb_SW[10]?).getD []) := trivial
theorem tb_s11 : mm_allL (fun q => mm_swc (tb_kb 11) q.1 q.2 = true) ((tb_SW[11]?).getD []) := trivial
theorem tb_s12 : mm_allL (fun q => mm_swc (tb_kb 12) q.1 q.2 = true) ((tb_SW[12]?).getD []) := trivial
theorem tb_s13 : mm_allL (fun q => mm_swc (tb_kb 13) q.1 q.2 = true) ((tb_SW[13]?).getD []) := trivial
theorem tb_s14 : mm_allL (fun q => mm_swc (tb_kb 14) q.1 q.2 = true) ((tb_SW[14]?).getD []) := trivial
theorem tb_s15 : mm_allL (fun q => mm_swc (tb_kb 15) q.1 q.2 = true) ((tb_SW[15]?).getD []) := trivial
theorem tb_s16 : mm_allL (fun q => mm_swc (tb_kb 16) q.1 q.2 = true) ((tb_SW[16]?).getD []) := trivial
theorem tb_s17 : mm_allL (fun q => mm_swc (tb_kb 17) q.1 q.2 = true) ((tb_SW[17]?).getD []) := trivial
theorem tb_s18 : mm_allL (fun q => mm_swc (tb_kb 18) q.1 q.2 = true) ((tb_SW[18]?).getD []) := trivial
theorem tb_s19 : mm_allL (fun q => mm_swc (tb_kb 19) q.1 q.2 = true) ((tb_SW[19]?).getD []) := trivial
theorem tb_s20 : mm_allL (fun q => mm_swc (tb_kb 20) q.1 q.2 = true) ((tb_SW[20]?).getD []) := trivial
theorem tb_s21 : mm_allL (fun q => mm_swc (tb_kb 21) q.1 q.2 = true) ((tb_SW[21]?).getD []) := trivial
theorem tb_s22 : mm_allL (fun q => mm_swc (tb_kb 22) q.1 q.2 = true) ((tb_SW[22]?).getD []) := trivial
theorem tb_s23 : mm_allL (fun q => mm_swc (tb_kb 23) q.1 q.2 = true) ((tb_SW[23]?).getD []) := trivial
theorem tb_s24 : mm_allL (fun q => mm_swc (tb_kb 24) q.1 q.2 = true) ((tb_SW[24]?).getD []) := trivial
theorem tb_s25 : mm_allL (fun q => mm_swc (tb_kb 25) q.1 q.2 = true) ((tb_SW[25]?).getD []) := trivial
theorem tb_s26 : mm_allL (fun q => mm_swc (tb_kb 26) q.1 q.2 = true) ((tb_SW[26]?).getD []) := trivial
theorem tb_s27 : mm_allL (fun q => mm_swc (tb_kb 27) q.1 q.2 = true) ((tb_SW[27]?).getD []) := trivial
theorem tb_s28 : mm_allL (fun q => mm_swc (tb_kb 28) q.1 q.2 = true) ((tb_SW[28]?).getD []) := trivial
theorem tb_s29 : mm_allL (fun q => mm_swc (tb_kb 29) q.1 q.2 = true) ((tb_SW[29]?).getD []) := trivial
theorem tb_s30 : mm_allL (fun q => mm_swc (tb_kb 30) q.1 q.2 = true) ((tb_SW[30]?).getD []) := trivial
theorem tb_s31 : mm_allL (fun q => mm_swc (tb_kb 31) q.1 q.2 = true) ((tb_SW[31]?).getD []) := trivial
theorem tb_s32 : mm_allL (fun q => mm_swc (tb_kb 32) q.1 q.2 = true) ((tb_SW[32]?).getD []) := trivial
theorem tb_s33 : mm_allL (fun q => mm_swc (tb_kb 33) q.1 q.2 = true) ((tb_SW[33]?).getD []) := trivial
theorem tb_s34 : mm_allL (fun q => mm_swc (tb_kb 34) q.1 q.2 = true) ((tb_SW[34]?).getD []) := trivial
theorem tb_s35 : mm_allL (fun q => mm_swc (tb_kb 35) q.1 q.2 = true) ((tb_SW[35]?).getD []) := ⟨by decide +kernel, trivial⟩
theorem tb_s36 : mm_allL (fun q => mm_swc (tb_kb 36) q.1 q.2 = true) ((tb_SW[36]?).getD []) := ⟨by decide +kernel, trivial⟩
theorem tb_s37 : mm_allL (fun q => mm_swc (tb_kb 37) q.1 q.2 = true) ((tb_SW[37]?).getD []) := trivial
theorem tb_s38 : mm_allL (fun q => mm_swc (tb_kb 38) q.1 q.2 = true) ((tb_SW[38]?).getD []) := trivial
theorem tb_s39 : mm_allL (fun q => mm_swc (tb_kb 39) q.1 q.2 = true) ((tb_SW[39]?).getD []) := trivial
theorem tb_s40 : mm_allL (fun q => mm_swc (tb_kb 40) q.1 q.2 = true) ((tb_SW[40]?).getD []) := trivial
theorem tb_s41 : mm_allL (fun q => mm_swc (tb_kb 41) q.1 q.2 = true) ((tb_SW[41]?).getD []) := trivial
theorem tb_s42 : mm_allL (fun q => mm_swc (tb_kb 42) q.1 q.2 = true) ((tb_SW[42]?).getD []) := trivial
theorem tb_s43 : mm_allL (fun q => mm_swc (tb_kb 43) q.1 q.2 = true) ((tb_SW[43]?).getD []) := trivial
theorem tb_s44 : mm_allL (fun q => mm_swc (tb_kb 44) q.1 q.2 = true) ((tb_SW[44]?).getD []) := trivial
theorem tb_s45 : mm_allL (fun q => mm_swc (tb_kb 45) q.1 q.2 = true) ((tb_SW[45]?).getD []) := trivial
theorem tb_s46 : mm_allL (fun q => mm_swc (tb_kb 46) q.1 q.2 = true) ((tb_SW[46]?).getD []) := trivial
theorem tb_s47 : mm_allL (fun q => mm_swc (tb_kb 47) q.1 q.2 = true) ((tb_SW[47]?).getD []) := trivial
theorem tb_s48 : mm_allL (fun q => mm_swc (tb_kb 48) q.1 q.2 = true) ((tb_SW[48]?).getD []) := ⟨by decide +kernel, trivial⟩
theorem tb_s49 : mm_allL (fun q => mm_swc (tb_kb 49) q.1 q.2 = true) ((tb_SW[49]?).getD []) := trivial
theorem tb_s50 : mm_allL (fun q => mm_swc (tb_kb 50) q.1 q.2 = true) ((tb_SW[50]?).getD []) := trivial
theorem tb_s51 : mm_allL (fun q => mm_swc (tb_kb 51) q.1 q.2 = true) ((tb_SW[51]?).getD []) := trivial
theorem tb_s52 : mm_allL (fun q => mm_swc (tb_kb 52) q.1 q.2 = true) ((tb_SW[52]?).getD []) := trivial
theorem tb_s53 : mm_allL (fun q => mm_swc (tb_kb 53) q.1 q.2 = true) ((tb_SW[53]?).getD []) := trivial
theorem tb_s54 : mm_allL (fun q => mm_swc (tb_kb 54) q.1 q.2 = true) ((tb_SW[54]?).getD []) := trivial
theorem tb_s55 : mm_allL (fun q => mm_swc (tb_kb 55) q.1 q.2 = true) ((tb_SW[55]?).getD []) := trivial
theorem tb_s56 : mm_allL (fun q => mm_swc (tb_kb 56) q.1 q.2 = true) ((tb_SW[56]?).getD []) := trivial
theorem tb_s57 : mm_allL (fun q => mm_swc (tb_kb 57) q.1 q.2 = true) ((tb_SW[57]?).getD []) := trivial
theorem tb_s58 : mm_allL (fun q => mm_swc (tb_kb 58) q.1 q.2 = true) ((tb_SW[58]?).getD []) := trivial
theorem tb_s59 : mm_allL (fun q => mm_swc (tb_kb 59) q.1 q.2 = true) ((tb_SW[59]?).getD []) := trivial
theorem tb_s60 : mm_allL (fun q => mm_swc (tb_kb 60) q.1 q.2 = true) ((tb_SW[60]?).getD []) := trivial
theorem tb_s61 : mm_allL (fun q => mm_swc (tb_kb 61) q.1 q.2 = true) ((tb_SW[61]?).getD []) := trivial
theorem tb_s62 : mm_allL (fun q => mm_swc (tb_kb 62) q.1 q.2 = true) ((tb_SW[62]?).getD []) := trivial
theorem tb_s63 : mm_allL (fun q => mm_swc (tb_kb 63) q.1 q.2 = true) ((tb_SW[63]?).getD []) := trivial
theorem tb_s64 : mm_allL (fun q => mm_swc (tb_kb 64) q.1 q.2 = true) ((tb_SW[64]?).getD []) := trivial
theorem tb_s65 : mm_allL (fun q => mm_swc (tb_kb 65) q.1 q.2 = true) ((tb_SW[65]?).getD []) := trivial
theorem tb_s66 : mm_allL (fun q => mm_swc (tb_kb 66) q.1 q.2 = true) ((tb_SW[66]?).getD []) := trivial
theorem tb_s67 : mm_allL (fun q => mm_swc (tb_kb 67) q.1 q.2 = true) ((tb_SW[67]?).getD []) := trivial
theorem tb_s68 : mm_allL (fun q => mm_swc (tb_kb 68) q.1 q.2 = true) ((tb_SW[68]?).getD []) := trivial
theorem tb_s69 : mm_allL (fun q => mm_swc (tb_kb 69) q.1 q.2 = true) ((tb_SW[69]?).getD []) := trivial
theorem tb_s70 : mm_allL (fun q => mm_swc (tb_kb 70) q.1 q.2 = true) ((tb_SW[70]?).getD []) := trivial
theorem tb_s71 : mm_allL (fun q => mm_swc (tb_kb 71) q.1 q.2 = true) ((tb_SW[71]?).getD []) := trivial
theorem tb_s72 : mm_allL (fun q => mm_swc (tb_kb 72) q.1 q.2 = true) ((tb_SW[72]?).getD []) := trivial
theorem tb_s73 : mm_allL (fun q => mm_swc (tb_kb 73) q.1 q.2 = true) ((tb_SW[73]?).getD []) := trivial
theorem tb_s74 : mm_allL (fun q => mm_swc (tb_kb 74) q.1 q.2 = true) ((tb_SW[74]?).getD []) := trivial
theorem tb_s75 : mm_allL (fun q => mm_swc (tb_kb 75) q.1 q.2 = true) ((tb_SW[75]?).getD []) := trivial
theorem tb_s76 : mm_allL (fun q => mm_swc (tb_kb 76) q.1 q.2 = true) ((tb_SW[76]?).getD []) := trivial
theorem tb_s77 : mm_allL (fun q => mm_swc (tb_kb 77) q.1 q.2 = true) ((tb_SW[77]?).getD []) := trivial
theorem tb_s78 : mm_allL (fun q => mm_swc (tb_kb 78) q.1 q.2 = true) ((tb_SW[78]?).getD []) := trivial
theorem tb_s79 : mm_allL (fun q => mm_swc (tb_kb 79) q.1 q.2 = true) ((tb_SW[79]?).getD []) := trivial
theorem tb_s80 : mm_allL (fun q => mm_swc (tb_kb 80) q.1 q.2 = true) ((tb_SW[80]?).getD []) := trivial
theorem tb_s81 : mm_allL (fun q => mm_swc (tb_kb 81) q.1 q.2 = true) ((tb_SW[81]?).getD []) := trivial
theorem tb_s82 : mm_allL (fun q => mm_swc (tb_kb 82) q.1 q.2 = true) ((tb_SW[82]?).getD []) := trivial
theorem tb_s83 : mm_allL (fun q => mm_swc (tb_kb 83) q.1 q.2 = true) ((tb_SW[83]?).getD []) := trivial
theorem tb_s84 : mm_allL (fun q => mm_swc (tb_kb 84) q.1 q.2 = true) ((tb_SW[84]?).getD []) := trivial
theorem tb_s85 : mm_allL (fun q => mm_swc (tb_kb 85) q.1 q.2 = true) ((tb_SW[85]?).getD []) := trivial
theorem tb_s86 : mm_allL (fun q => mm_swc (tb_kb 86) q.1 q.2 = true) ((tb_SW[86]?).getD []) := trivial
theorem tb_s87 : mm_allL (fun q => mm_swc (tb_kb 87) q.1 q.2 = true) ((tb_SW[87]?).getD []) := trivial
theorem tb_s88 : mm_allL (fun q => mm_swc (tb_kb 88) q.1 q.2 = true) ((tb_SW[88]?).getD []) := trivial
theorem tb_s89 : mm_allL (fun q => mm_swc (tb_kb 89) q.1 q.2 = true) ((tb_SW[89]?).getD []) := trivial
theorem tb_s90 : mm_allL (fun q => mm_swc (tb_kb 90) q.1 q.2 = true) ((tb_SW[90]?).getD []) := trivial
theorem tb_s91 : mm_allL (fun q => mm_swc (tb_kb 91) q.1 q.2 = true) ((tb_SW[91]?).getD []) := trivial
theorem tb_s92 : mm_allL (fun q => mm_swc (tb_kb 92) q.1 q.2 = true) ((tb_SW[92]?).getD []) := trivial
theorem tb_s93 : mm_allL (fun q => mm_swc (tb_kb 93) q.1 q.2 = true) ((tb_SW[93]?).getD []) := trivial
theorem tb_s94 : mm_allL (fun q => mm_swc (tb_kb 94) q.1 q.2 = true) ((tb_SW[94]?).getD []) := trivial
theorem tb_s95 : mm_allL (fun q => mm_swc (tb_kb 95) q.1 q.2 = true) ((tb_SW[95]?).getD []) := trivial
theorem tb_s96 : mm_allL (fun q => mm_swc (tb_kb 96) q.1 q.2 = true) ((tb_SW[96]?).getD []) := trivial
theorem tb_s97 : mm_allL (fun q => mm_swc (tb_kb 97) q.1 q.2 = true) ((tb_SW[97]?).getD []) := trivial
theorem tb_s98 : mm_allL (fun q => mm_swc (tb_kb 98) q.1 q.2 = true) ((tb_SW[98]?).getD []) := trivial
theorem tb_s99 : mm_allL (fun q => mm_swc (tb_kb 99) q.1 q.2 = true) ((tb_SW[99]?).getD []) := trivial
theorem tb_s100 : mm_allL (fun q => mm_swc (tb_kb 100) q.1 q.2 = true) ((tb_SW[100]?).getD []) := trivial
theorem tb_s101 : mm_allL (fun q => mm_swc (tb_kb 101) q.1 q.2 = true) ((tb_SW[101]?).getD []) := trivial
theorem tb_s102 : mm_allL (fun q => mm_swc (tb_kb 102) q.1 q.2 = true) ((tb_SW[102]?).getD []) := trivial
theorem tb_s103 : mm_allL (fun q => mm_swc (tb_kb 103) q.1 q.2 = true) ((tb_SW[103]?).getD []) := trivial
theorem tb_s104 : mm_allL (fun q => mm_swc (tb_kb 104) q.1 q.2 = true) ((tb_SW[104]?).getD []) := trivial
theorem tb_s105 : mm_allL (fun q => mm_swc (tb_kb 105) q.1 q.2 = true) ((tb_SW[105]?).getD []) := trivial
theorem tb_s106 : mm_allL (fun q => mm_swc (tb_kb 106) q.1 q.2 = true) ((tb_SW[106]?).getD []) := trivial
theorem tb_s107 : mm_allL (fun q => mm_swc (tb_kb 107) q.1 q.2 = true) ((tb_SW[107]?).getD []) := trivial
theorem tb_s108 : mm_allL (fun q => mm_swc (tb_kb 108) q.1 q.2 = true) ((tb_SW[108]?).getD []) := trivial
theorem tb_s109 : mm_allL (fun q => mm_swc (tb_kb 109) q.1 q.2 = true) ((tb_SW[109]?).getD []) := trivial
theorem tb_s110 : mm_allL (fun q => mm_swc (tb_kb 110) q.1 q.2 = true) ((tb_SW[110]?).getD []) := trivial
theorem tb_s111 : mm_allL (fun q => mm_swc (tb_kb 111) q.1 q.2 = true) ((tb_SW[111]?).getD []) := trivial
theorem tb_s112 : mm_allL (fun q => mm_swc (tb_kb 112) q.1 q.2 = true) ((tb_SW[112]?).getD []) := ⟨by decide +kernel, trivial⟩
theorem tb_s113 : mm_allL (fun q => mm_swc (tb_kb 113) q.1 q.2 = true) ((tb_SW[113]?).getD []) := trivial
theorem tb_s114 : mm_allL (fun q => mm_swc (tb_kb 114) q.1 q.2 = true) ((tb_SW[114]?).getD []) := trivial
theorem tb_s115 : mm_allL (fun q => mm_swc (tb_kb 115) q.1 q.2 = true) ((tb_SW[115]?).getD []) := trivial
theorem tb_s116 : mm_allL (fun q => mm_swc (tb_kb 116) q.1 q.2 = true) ((tb_SW[116]?).getD []) := trivial
theorem tb_s117 : mm_allL (fun q => mm_swc (tb_kb 117) q.1 q.2 = true) ((tb_SW[117]?).getD []) := trivial
theorem tb_s118 : mm_allL (fun q => mm_swc (tb_kb 118) q.1 q.2 = true) ((tb_SW[118]?).getD []) := trivial
theorem tb_s119 : mm_allL (fun q => mm_swc (tb_kb 119) q.1 q.2 = true) ((tb_SW[119]?).getD []) := trivial
theorem tb_s120 : mm_allL (fun q => mm_swc (tb_kb 120) q.1 q.2 = true) ((tb_SW[120]?).getD []) := trivial
theorem tb_s121 : mm_allL (fun q => mm_swc (tb_kb 121) q.1 q.2 = true) ((tb_SW[121]?).getD []) := trivial
theorem tb_s122 : mm_allL (fun q => mm_swc (tb_kb 122) q.1 q.2 = true) ((tb_SW[122]?).getD []) := trivial
theorem tb_s123 : mm_allL (fun q => mm_swc (tb_kb 123) q.1 q.2 = true) ((tb_SW[123]?).getD []) := trivial
theorem tb_s124 : mm_allL (fun q => mm_swc (tb_kb 124) q.1 q.2 = true) ((tb_SW[124]?).getD []) := trivial
theorem tb_s125 : mm_allL (fun q => mm_swc (tb_kb 125) q.1 q.2 = true) ((tb_SW[125]?).getD []) := trivial
theorem tb_s126 : mm_allL (fun q => mm_swc (tb_kb 126) q.1 q.2 = true) ((tb_SW[126]?).getD []) := trivial
theorem tb_s127 : mm_allL (fun q => mm_swc (tb_kb 127) q.1 q.2 = true) ((tb_SW[127]?).getD []) := trivial
theorem tb_s128 : mm_allL (fun q => mm_swc (tb_kb 128) q.1 q.2 = true) ((tb_SW[128]?).getD []) := trivial
theorem tb_s129 : mm_allL (fun q => mm_swc (tb_kb 129) q.1 q.2 = true) ((tb_SW[129]?).getD []) := trivial
theorem tb_s130 : mm_allL (fun q => mm_swc (tb_kb 130) q.1 q.2 = true) ((tb_SW[130]?).getD []) := trivial
theorem tb_s131 : mm_allL (fun q => mm_swc (tb_kb 131) q.1 q.2 = true) ((tb_SW[131]?).getD []) := trivial
theorem tb_s132 : mm_allL (fun q => mm_swc (tb_kb 132) q.1 q.2 = true) ((tb_SW[132]?).getD []) := trivial
theorem tb_s133 : mm_allL (fun q => mm_swc (tb_kb 133) q.1 q.2 = true) ((tb_SW[133]?).getD []) := trivial
theorem tb_s134 : mm_allL (fun q => mm_swc (tb_kb 134) q.1 q.2 = true) ((tb_SW[134]?).getD []) := trivial
theorem tb_s135 : mm_allL (fun q => mm_swc (tb_kb 135) q.1 q.2 = true) ((tb_SW[135]?).getD []) := trivial
set_option maxRecDepth 20000 in
theorem tb_sall : mm_all2P (fun k pc v => mm_swc (tb_kb k) pc v = true) 0 tb_SW := ⟨tb_s0, tb_s1, tb_s2, tb_s3, tb_s4, tb_s5, tb_s6, tb_s7, tb_s8, tb_s9, tb_s10, tb_s11, tb_s12, tb_s13, tb_s14, tb_s15, tb_s16, tb_s17, tb_s18, tb_s19, tb_s20, tb_s21, tb_s22, tb_s23, tb_s24, tb_s25, tb_s26, tb_s27, tb_s28, tb_s29, tb_s30, tb_s31, tb_s32, tb_s33, tb_s34, tb_s35, tb_s36, tb_s37, tb_s38, tb_s39, tb_s40, tb_s41, tb_s42, tb_s43, tb_s44, tb_s45, tb_s46, tb_s47, tb_s48, tb_s49, tb_s50, tb_s51, tb_s52, tb_s53, tb_s54, tb_s55, tb_s56, tb_s57, tb_s58, tb_s59, tb_s60, tb_s61, tb_s62, tb_s63, tb_s64, tb_s65, tb_s66, tb_s67, tb_s68, tb_s69, tb_s70, tb_s71, tb_s72, tb_s73, tb_s74, tb_s75, tb_s76, tb_s77, tb_s78, tb_s79, tb_s80, tb_s81, tb_s82, tb_s83, tb_s84, tb_s85, tb_s86, tb_s87, tb_s88, tb_s89, tb_s90, tb_s91, tb_s92, tb_s93, tb_s94, tb_s95, tb_s96, tb_s97, tb_s98, tb_s99, tb_s100, tb_s101, tb_s102, tb_s103, tb_s104, tb_s105, tb_s106, tb_s107, tb_s108, tb_s109, tb_s110, tb_s111, tb_s112, tb_s113, tb_s114, tb_s115, tb_s116, tb_s117, tb_s118, tb_s119, tb_s120, tb_s121, tb_s122, tb_s123, tb_s124, tb_s125, tb_s126, tb_s127, tb_s128, tb_s129, tb_s130, tb_s131, tb_s132, tb_s133, tb_s134, tb_s135, trivial⟩
theorem tb_nh0 : "IndexedCompiler" ≠ "java/lang/invoke/MethodHandle" ∧ "IndexedCompiler" ≠ "java/lang/invoke/VarHandle" := ⟨by decide +kernel, by decide +kernel⟩
theorem tb_pn0 : plainName "IndexedCompiler" = true := by decide +kernel
theorem tb_nh6 : "IndexedCompiler$Checker" ≠ "java/lang/invoke/MethodHandle" ∧ "IndexedCompiler$Checker" ≠ "java/lang/invoke/VarHandle" := ⟨by decide +kernel, by decide +kernel⟩
theorem tb_pn6 : plainName "IndexedCompiler$Checker" = true := by decide +kernel
theorem tb_nh7 : "IndexedCompiler$Coder" ≠ "java/lang/invoke/MethodHandle" ∧ "IndexedCompiler$Coder" ≠ "java/lang/invoke/VarHandle" := ⟨by decide +kernel, by decide +kernel⟩
theorem tb_pn7 : plainName "IndexedCompiler$Coder" = true := by decide +kernel
theorem tb_nh4 : "IndexedCompiler$Expression" ≠ "java/lang/invoke/MethodHandle" ∧ "IndexedCompiler$Expression" ≠ "java/lang/invoke/VarHandle" := ⟨by decide +kernel, by decide +kernel⟩
theorem tb_pn4 : plainName "IndexedCompiler$Expression" = true := by decide +kernel
theorem tb_nh5 : "IndexedCompiler$Ground" ≠ "java/lang/invoke/MethodHandle" ∧ "IndexedCompiler$Ground" ≠ "java/lang/invoke/VarHandle" := ⟨by decide +kernel, by decide +kernel⟩
theorem tb_pn5 : plainName "IndexedCompiler$Ground" = true := by decide +kernel
theorem tb_nh1 : "IndexedCompiler$Line" ≠ "java/lang/invoke/MethodHandle" ∧ "IndexedCompiler$Line" ≠ "java/lang/invoke/VarHandle" := ⟨by decide +kernel, by decide +kernel⟩
theorem tb_pn1 : plainName "IndexedCompiler$Line" = true := by decide +kernel
theorem tb_nh9 : "IndexedCompiler$Machine" ≠ "java/lang/invoke/MethodHandle" ∧ "IndexedCompiler$Machine" ≠ "java/lang/invoke/VarHandle" := ⟨by decide +kernel, by decide +kernel⟩
theorem tb_pn9 : plainName "IndexedCompiler$Machine" = true := by decide +kernel
theorem tb_nh2 : "IndexedCompiler$Reader" ≠ "java/lang/invoke/MethodHandle" ∧ "IndexedCompiler$Reader" ≠ "java/lang/invoke/VarHandle" := ⟨by decide +kernel, by decide +kernel⟩
theorem tb_pn2 : plainName "IndexedCompiler$Reader" = true := by decide +kernel
theorem tb_nh8 : "IndexedCompiler$Slots" ≠ "java/lang/invoke/MethodHandle" ∧ "IndexedCompiler$Slots" ≠ "java/lang/invoke/VarHandle" := ⟨by decide +kernel, by decide +kernel⟩
theorem tb_pn8 : plainName "IndexedCompiler$Slots" = true := by decide +kernel
theorem tb_nh3 : "IndexedCompiler$Solver" ≠ "java/lang/invoke/MethodHandle" ∧ "IndexedCompiler$Solver" ≠ "java/lang/invoke/VarHandle" := ⟨by decide +kernel, by decide +kernel⟩
theorem tb_pn3 : plainName "IndexedCompiler$Solver" = true := by decide +kernel
theorem tb_nh10 : "IndexedCompiler$Tree" ≠ "java/lang/invoke/MethodHandle" ∧ "IndexedCompiler$Tree" ≠ "java/lang/invoke/VarHandle" := ⟨by decide +kernel, by decide +kernel⟩
theorem tb_pn10 : plainName "IndexedCompiler$Tree" = true := by decide +kernel
theorem tb_nh15 : "IndexedCompilerLaw" ≠ "java/lang/invoke/MethodHandle" ∧ "IndexedCompilerLaw" ≠ "java/lang/invoke/VarHandle" := ⟨by decide +kernel, by decide +kernel⟩
theorem tb_pn15 : plainName "IndexedCompilerLaw" = true := by decide +kernel
theorem tb_nh12 : "IndexedCompilerModel" ≠ "java/lang/invoke/MethodHandle" ∧ "IndexedCompilerModel" ≠ "java/lang/invoke/VarHandle" := ⟨by decide +kernel, by decide +kernel⟩
theorem tb_pn12 : plainName "IndexedCompilerModel" = true := by decide +kernel
theorem tb_nh16 : "java/lang/Math" ≠ "java/lang/invoke/MethodHandle" ∧ "java/lang/Math" ≠ "java/lang/invoke/VarHandle" := ⟨by decide +kernel, by decide +kernel⟩
theorem tb_nh17 : "java/util/Arrays" ≠ "java/lang/invoke/MethodHandle" ∧ "java/util/Arrays" ≠ "java/lang/invoke/VarHandle" := ⟨by decide +kernel, by decide +kernel⟩
theorem tb_k1 : mm_cf tb_P tb_TB tb_cn tb_ky tb_kb tb_hs 1 := ⟨Or.inr (tb_i6 (List.mem_of_getElem? (i := 38) rfl) rfl), (tb_i1 (List.mem_of_getElem? (i := 0) rfl) rfl), tb_nh15, plainFor_of_name tb_pn15, rfl, fun h => Bool.noConfusion h⟩
theorem tb_k2 : mm_cf tb_P tb_TB tb_cn tb_ky tb_kb tb_hs 2 := ⟨Or.inr (tb_i6 (List.mem_of_getElem? (i := 56) rfl) rfl), (tb_i1 (List.mem_of_getElem? (i := 0) rfl) rfl), tb_nh15, plainFor_of_name tb_pn15, rfl, fun h => Bool.noConfusion h⟩
theorem tb_k3 : mm_cf tb_P tb_TB tb_cn tb_ky tb_kb tb_hs 3 := ⟨Or.inr (tb_i6 (List.mem_of_getElem? (i := 84) rfl) rfl), (tb_i1 (List.mem_of_getElem? (i := 0) rfl) rfl), tb_nh15, plainFor_of_name tb_pn15, rfl, fun h => Bool.noConfusion h⟩
theorem tb_k4 : mm_cf tb_P tb_TB tb_cn tb_ky tb_kb tb_hs 4 := ⟨Or.inr (tb_i6 (List.mem_of_getElem? (i := 100) rfl) rfl), (tb_i1 (List.mem_of_getElem? (i := 0) rfl) rfl), tb_nh15, plainFor_of_name tb_pn15, rfl, fun h => Bool.noConfusion h⟩
theorem tb_k5 : mm_cf tb_P tb_TB tb_cn tb_ky tb_kb tb_hs 5 := ⟨Or.inr (tb_i6 (List.mem_of_getElem? (i := 117) rfl) rfl), (tb_i1 (List.mem_of_getElem? (i := 0) rfl) rfl), tb_nh15, plainFor_of_name tb_pn15, rfl, fun h => Bool.noConfusion h⟩
theorem tb_k6 : mm_cf tb_P tb_TB tb_cn tb_ky tb_kb tb_hs 6 := ⟨Or.inr (tb_i6 (List.mem_of_getElem? (i := 138) rfl) rfl), (tb_i1 (List.mem_of_getElem? (i := 0) rfl) rfl), tb_nh15, plainFor_of_name tb_pn15, rfl, fun h => Bool.noConfusion h⟩
theorem tb_k7 : mm_cf tb_P tb_TB tb_cn tb_ky tb_kb tb_hs 7 := ⟨Or.inr (tb_i6 (List.mem_of_getElem? (i := 150) rfl) rfl), (tb_i1 (List.mem_of_getElem? (i := 0) rfl) rfl), tb_nh15, plainFor_of_name tb_pn15, rfl, fun h => Bool.noConfusion h⟩
theorem tb_k8 : mm_cf tb_P tb_TB tb_cn tb_ky tb_kb tb_hs 8 := ⟨Or.inr (tb_i6 (List.mem_of_getElem? (i := 171) rfl) rfl), (tb_i1 (List.mem_of_getElem? (i := 0) rfl) rfl), tb_nh15, plainFor_of_name tb_pn15, rfl, fun h => Bool.noConfusion h⟩
theorem tb_k9 : mm_cf tb_P tb_TB tb_cn tb_ky tb_kb tb_hs 9 := ⟨Or.inr (tb_i6 (List.mem_of_getElem? (i := 187) rfl) rfl), (tb_i1 (List.mem_of_getElem? (i := 0) rfl) rfl), tb_nh15, plainFor_of_name tb_pn15, rfl, fun h => Bool.noConfusion h⟩
theorem tb_k10 : mm_cf tb_P tb_TB tb_cn tb_ky tb_kb tb_hs 10 := ⟨Or.inr (tb_i6 (List.mem_of_getElem? (i := 199) rfl) rfl), (tb_i1 (List.mem_of_getElem? (i := 0) rfl) rfl), tb_nh15, plainFor_of_name tb_pn15, rfl, fun h => Bool.noConfusion h⟩
theorem tb_k11 : mm_cf tb_P tb_TB tb_cn tb_ky tb_kb tb_hs 11 := ⟨Or.inr (tb_i7 (List.mem_of_getElem? (i := 89) rfl) rfl), (tb_i1 (List.mem_of_getElem? (i := 0) rfl) rfl), tb_nh15, plainFor_of_name tb_pn15, rfl, fun h => Bool.noConfusion h⟩
theorem tb_k12 : mm_cf tb_P tb_TB tb_cn tb_ky tb_kb tb_hs 12 := ⟨Or.inr (tb_i7 (List.mem_of_getElem? (i := 101) rfl) rfl), (tb_i1 (List.mem_of_getElem? (i := 0) rfl) rfl), tb_nh15, plainFor_of_name tb_pn15, rfl, fun h => Bool.noConfusion h⟩
theorem tb_k13 : mm_cf tb_P tb_TB tb_cn tb_ky tb_kb tb_hs 13 := ⟨Or.inr (tb_i7 (List.mem_of_getElem? (i := 122) rfl) rfl), (tb_i1 (List.mem_of_getElem? (i := 0) rfl) rfl), tb_nh15, plainFor_of_name tb_pn15, rfl, fun h => Bool.noConfusion h⟩
theorem tb_k14 : mm_cf tb_P tb_TB tb_cn tb_ky tb_kb tb_hs 14 := ⟨Or.inl ⟨(tb_i7 (List.mem_of_getElem? (i := 135) rfl) rfl), rfl⟩, (tb_i1 (List.mem_of_getElem? (i := 12) rfl) rfl), tb_nh12, plainFor_of_name tb_pn12, rfl, fun _ => rfl⟩
theorem tb_k15 : mm_cf tb_P tb_TB tb_cn tb_ky tb_kb tb_hs 15 := ⟨Or.inl ⟨(tb_i9 (List.mem_of_getElem? (i := 96) rfl) rfl), rfl⟩, (tb_i1 (List.mem_of_getElem? (i := 12) rfl) rfl), tb_nh12, plainFor_of_name tb_pn12, rfl, fun h => Bool.noConfusion h⟩
theorem tb_k16 : mm_cf tb_P tb_TB tb_cn tb_ky tb_kb tb_hs 16 := ⟨Or.inl ⟨(tb_i9 (List.mem_of_getElem? (i := 108) rfl) rfl), rfl⟩, (tb_i1 (List.mem_of_getElem? (i := 12) rfl) rfl), tb_nh12, plainFor_of_name tb_pn12, rfl, fun h => Bool.noConfusion h⟩
theorem tb_k17 : mm_cf tb_P tb_TB tb_cn tb_ky tb_kb tb_hs 17 := ⟨Or.inl ⟨(tb_i11 (List.mem_of_getElem? (i := 53) rfl) rfl), rfl⟩, (tb_i1 (List.mem_of_getElem? (i := 12) rfl) rfl), tb_nh12, plainFor_of_name tb_pn12, rfl, fun h => Bool.noConfusion h⟩
theorem tb_k18 : mm_cf tb_P tb_TB tb_cn tb_ky tb_kb tb_hs 18 := ⟨Or.inl ⟨(tb_i9 (List.mem_of_getElem? (i := 104) rfl) rfl), rfl⟩, (tb_i1 (List.mem_of_getElem? (i := 12) rfl) rfl), tb_nh12, plainFor_of_name tb_pn12, rfl, fun h => Bool.noConfusion h⟩
theorem tb_k19 : mm_cf tb_P tb_TB tb_cn tb_ky tb_kb tb_hs 19 := ⟨Or.inl ⟨(tb_i9 (List.mem_of_getElem? (i := 100) rfl) rfl), rfl⟩, (tb_i1 (List.mem_of_getElem? (i := 12) rfl) rfl), tb_nh12, plainFor_of_name tb_pn12, rfl, fun h => Bool.noConfusion h⟩
theorem tb_k20 : mm_cf tb_P tb_TB tb_cn tb_ky tb_kb tb_hs 20 := ⟨Or.inl ⟨(tb_i9 (List.mem_of_getElem? (i := 112) rfl) rfl), rfl⟩, (tb_i1 (List.mem_of_getElem? (i := 12) rfl) rfl), tb_nh12, plainFor_of_name tb_pn12, rfl, fun h => Bool.noConfusion h⟩
theorem tb_k21 : mm_cf tb_P tb_TB tb_cn tb_ky tb_kb tb_hs 21 := ⟨Or.inl ⟨(tb_i9 (List.mem_of_getElem? (i := 124) rfl) rfl), rfl⟩, (tb_i1 (List.mem_of_getElem? (i := 12) rfl) rfl), tb_nh12, plainFor_of_name tb_pn12, rfl, fun h => Bool.noConfusion h⟩
theorem tb_k22 : mm_cf tb_P tb_TB tb_cn tb_ky tb_kb tb_hs 22 := ⟨Or.inl ⟨(tb_i9 (List.mem_of_getElem? (i := 149) rfl) rfl), rfl⟩, (tb_i1 (List.mem_of_getElem? (i := 12) rfl) rfl), tb_nh12, plainFor_of_name tb_pn12, rfl, fun h => Bool.noConfusion h⟩
theorem tb_k23 : mm_cf tb_P tb_TB tb_cn tb_ky tb_kb tb_hs 23 := ⟨Or.inl ⟨(tb_i9 (List.mem_of_getElem? (i := 166) rfl) rfl), rfl⟩, (tb_i1 (List.mem_of_getElem? (i := 12) rfl) rfl), tb_nh12, plainFor_of_name tb_pn12, rfl, fun h => Bool.noConfusion h⟩
theorem tb_k24 : mm_cf tb_P tb_TB tb_cn tb_ky tb_kb tb_hs 24 := ⟨Or.inl ⟨(tb_i9 (List.mem_of_getElem? (i := 145) rfl) rfl), rfl⟩, (tb_i1 (List.mem_of_getElem? (i := 12) rfl) rfl), tb_nh12, plainFor_of_name tb_pn12, rfl, fun h => Bool.noConfusion h⟩
theorem tb_k25 : mm_cf tb_P tb_TB tb_cn tb_ky tb_kb tb_hs 25 := ⟨Or.inl ⟨(tb_i9 (List.mem_of_getElem? (i := 157) rfl) rfl), rfl⟩, (tb_i1 (List.mem_of_getElem? (i := 12) rfl) rfl), tb_nh12, plainFor_of_name tb_pn12, rfl, fun h => Bool.noConfusion h⟩
theorem tb_k26 : mm_cf tb_P tb_TB tb_cn tb_ky tb_kb tb_hs 26 := ⟨Or.inl ⟨(tb_i9 (List.mem_of_getElem? (i := 202) rfl) rfl), rfl⟩, (tb_i1 (List.mem_of_getElem? (i := 12) rfl) rfl), tb_nh12, plainFor_of_name tb_pn12, rfl, fun h => Bool.noConfusion h⟩
theorem tb_k27 : mm_cf tb_P tb_TB tb_cn tb_ky tb_kb tb_hs 27 := ⟨Or.inl ⟨(tb_i9 (List.mem_of_getElem? (i := 141) rfl) rfl), rfl⟩, (tb_i1 (List.mem_of_getElem? (i := 12) rfl) rfl), tb_nh12, plainFor_of_name tb_pn12, rfl, fun h => Bool.noConfusion h⟩
theorem tb_k28 : mm_cf tb_P tb_TB tb_cn tb_ky tb_kb tb_hs 28 := ⟨Or.inl ⟨(tb_i9 (List.mem_of_getElem? (i := 153) rfl) rfl), rfl⟩, (tb_i1 (List.mem_of_getElem? (i := 12) rfl) rfl), tb_nh12, plainFor_of_name tb_pn12, rfl, fun h => Bool.noConfusion h⟩
theorem tb_k29 : mm_cf tb_P tb_TB tb_cn tb_ky tb_kb tb_hs 29 := ⟨Or.inl ⟨(tb_i9 (List.mem_of_getElem? (i := 120) rfl) rfl), rfl⟩, (tb_i1 (List.mem_of_getElem? (i := 12) rfl) rfl), tb_nh12, plainFor_of_name tb_pn12, rfl, fun h => Bool.noConfusion h⟩
theorem tb_k30 : mm_cf tb_P tb_TB tb_cn tb_ky tb_kb tb_hs 30 := ⟨Or.inl ⟨(tb_i9 (List.mem_of_getElem? (i := 116) rfl) rfl), rfl⟩, (tb_i1 (List.mem_of_getElem? (i := 12) rfl) rfl), tb_nh12, plainFor_of_name tb_pn12, rfl, fun h => Bool.noConfusion h⟩
theorem tb_k31 : mm_cf tb_P tb_TB tb_cn tb_ky tb_kb tb_hs 31 := ⟨Or.inl ⟨(tb_i10 (List.mem_of_getElem? (i := 30) rfl) rfl), rfl⟩, (tb_i1 (List.mem_of_getElem? (i := 12) rfl) rfl), tb_nh12, plainFor_of_name tb_pn12, rfl, fun h => Bool.noConfusion h⟩
theorem tb_k32 : mm_cf tb_P tb_TB tb_cn tb_ky tb_kb tb_hs 32 := ⟨Or.inl ⟨(tb_i10 (List.mem_of_getElem? (i := 26) rfl) rfl), rfl⟩, (tb_i1 (List.mem_of_getElem? (i := 12) rfl) rfl), tb_nh12, plainFor_of_name tb_pn12, rfl, fun h => Bool.noConfusion h⟩
theorem tb_k33 : mm_cf tb_P tb_TB tb_cn tb_ky tb_kb tb_hs 33 := ⟨Or.inl ⟨(tb_i10 (List.mem_of_getElem? (i := 34) rfl) rfl), rfl⟩, (tb_i1 (List.mem_of_getElem? (i := 12) rfl) rfl), tb_nh12, plainFor_of_name tb_pn12, rfl, fun h => Bool.noConfusion h⟩
theorem tb_k34 : mm_cf tb_P tb_TB tb_cn tb_ky tb_kb tb_hs 34 := ⟨Or.inl ⟨(tb_i10 (List.mem_of_getElem? (i := 38) rfl) rfl), rfl⟩, (tb_i1 (List.mem_of_getElem? (i := 12) rfl) rfl), tb_nh12, plainFor_of_name tb_pn12, rfl, fun h => Bool.noConfusion h⟩
theorem tb_k35 : mm_cf tb_P tb_TB tb_cn tb_ky tb_kb tb_hs 35 := ⟨Or.inl ⟨(tb_i11 (List.mem_of_getElem? (i := 49) rfl) rfl), rfl⟩, (tb_i1 (List.mem_of_getElem? (i := 12) rfl) rfl), tb_nh12, plainFor_of_name tb_pn12, rfl, fun h => Bool.noConfusion h⟩
theorem tb_k36 : mm_cf tb_P tb_TB tb_cn tb_ky tb_kb tb_hs 36 := ⟨Or.inl ⟨(tb_i11 (List.mem_of_getElem? (i := 57) rfl) rfl), rfl⟩, (tb_i1 (List.mem_of_getElem? (i := 12) rfl) rfl), tb_nh12, plainFor_of_name tb_pn12, rfl, fun h => Bool.noConfusion h⟩
theorem tb_k37 : mm_cf tb_P tb_TB tb_cn tb_ky tb_kb tb_hs 37 := ⟨Or.inl ⟨(tb_i11 (List.mem_of_getElem? (i := 61) rfl) rfl), rfl⟩, (tb_i1 (List.mem_of_getElem? (i := 12) rfl) rfl), tb_nh12, plainFor_of_name tb_pn12, rfl, fun h => Bool.noConfusion h⟩
theorem tb_k38 : mm_cf tb_P tb_TB tb_cn tb_ky tb_kb tb_hs 38 := ⟨Or.inl ⟨(tb_i11 (List.mem_of_getElem? (i := 65) rfl) rfl), rfl⟩, (tb_i1 (List.mem_of_getElem? (i := 12) rfl) rfl), tb_nh12, plainFor_of_name tb_pn12, rfl, fun h => Bool.noConfusion h⟩
theorem tb_k39 : mm_cf tb_P tb_TB tb_cn tb_ky tb_kb tb_hs 39 := ⟨Or.inl ⟨(tb_i11 (List.mem_of_getElem? (i := 79) rfl) rfl), rfl⟩, (tb_i1 (List.mem_of_getElem? (i := 12) rfl) rfl), tb_nh12, plainFor_of_name tb_pn12, rfl, fun h => Bool.noConfusion h⟩
theorem tb_k40 : mm_cf tb_P tb_TB tb_cn tb_ky tb_kb tb_hs 40 := ⟨Or.inl ⟨(tb_i11 (List.mem_of_getElem? (i := 76) rfl) rfl), rfl⟩, (tb_i1 (List.mem_of_getElem? (i := 12) rfl) rfl), tb_nh12, plainFor_of_name tb_pn12, rfl, fun h => Bool.noConfusion h⟩
theorem tb_k41 : mm_cf tb_P tb_TB tb_cn tb_ky tb_kb tb_hs 41 := ⟨Or.inl ⟨(tb_i11 (List.mem_of_getElem? (i := 73) rfl) rfl), rfl⟩, (tb_i1 (List.mem_of_getElem? (i := 12) rfl) rfl), tb_nh12, plainFor_of_name tb_pn12, rfl, fun h => Bool.noConfusion h⟩
theorem tb_k42 : mm_cf tb_P tb_TB tb_cn tb_ky tb_kb tb_hs 42 := ⟨Or.inl ⟨(tb_i11 (List.mem_of_getElem? (i := 83) rfl) rfl), rfl⟩, (tb_i1 (List.mem_of_getElem? (i := 12) rfl) rfl), tb_nh12, plainFor_of_name tb_pn12, rfl, fun h => Bool.noConfusion h⟩
theorem tb_k43 : mm_cf tb_P tb_TB tb_cn tb_ky tb_kb tb_hs 43 := ⟨Or.inl ⟨(tb_i11 (List.mem_of_getElem? (i := 92) rfl) rfl), rfl⟩, (tb_i1 (List.mem_of_getElem? (i := 12) rfl) rfl), tb_nh12, plainFor_of_name tb_pn12, rfl, fun h => Bool.noConfusion h⟩
theorem tb_k44 : mm_cf tb_P tb_TB tb_cn tb_ky tb_kb tb_hs 44 := ⟨Or.inl ⟨(tb_i11 (List.mem_of_getElem? (i := 88) rfl) rfl), rfl⟩, (tb_i1 (List.mem_of_getElem? (i := 12) rfl) rfl), tb_nh12, plainFor_of_name tb_pn12, rfl, fun h => Bool.noConfusion h⟩
theorem tb_k45 : mm_cf tb_P tb_TB tb_cn tb_ky tb_kb tb_hs 45 := ⟨Or.inl ⟨(tb_i11 (List.mem_of_getElem? (i := 96) rfl) rfl), rfl⟩, (tb_i1 (List.mem_of_getElem? (i := 12) rfl) rfl), tb_nh12, plainFor_of_name tb_pn12, rfl, fun h => Bool.noConfusion h⟩
theorem tb_k46 : mm_cf tb_P tb_TB tb_cn tb_ky tb_kb tb_hs 46 := ⟨Or.inl ⟨(tb_i11 (List.mem_of_getElem? (i := 100) rfl) rfl), rfl⟩, (tb_i1 (List.mem_of_getElem? (i := 12) rfl) rfl), tb_nh12, plainFor_of_name tb_pn12, rfl, fun h => Bool.noConfusion h⟩
theorem tb_k47 : mm_cf tb_P tb_TB tb_cn tb_ky tb_kb tb_hs 47 := ⟨Or.inl ⟨(tb_i11 (List.mem_of_getElem? (i := 105) rfl) rfl), rfl⟩, (tb_i1 (List.mem_of_getElem? (i := 12) rfl) rfl), tb_nh12, plainFor_of_name tb_pn12, rfl, fun h => Bool.noConfusion h⟩
theorem tb_k48 : mm_cf tb_P tb_TB tb_cn tb_ky tb_kb tb_hs 48 := ⟨Or.inl ⟨(tb_i11 (List.mem_of_getElem? (i := 159) rfl) rfl), rfl⟩, (tb_i1 (List.mem_of_getElem? (i := 12) rfl) rfl), tb_nh12, plainFor_of_name tb_pn12, rfl, fun h => Bool.noConfusion h⟩
theorem tb_k49 : mm_cf tb_P tb_TB tb_cn tb_ky tb_kb tb_hs 49 := ⟨Or.inl ⟨(tb_i11 (List.mem_of_getElem? (i := 164) rfl) rfl), rfl⟩, (tb_i1 (List.mem_of_getElem? (i := 12) rfl) rfl), tb_nh12, plainFor_of_name tb_pn12, rfl, fun h => Bool.noConfusion h⟩
theorem tb_k50 : mm_cf tb_P tb_TB tb_cn tb_ky tb_kb tb_hs 50 := ⟨Or.inl ⟨(tb_i11 (List.mem_of_getElem? (i := 172) rfl) rfl), rfl⟩, (tb_i1 (List.mem_of_getElem? (i := 12) rfl) rfl), tb_nh12, plainFor_of_name tb_pn12, rfl, fun h => Bool.noConfusion h⟩
theorem tb_k51 : mm_cf tb_P tb_TB tb_cn tb_ky tb_kb tb_hs 51 := ⟨Or.inl ⟨(tb_i11 (List.mem_of_getElem? (i := 177) rfl) rfl), rfl⟩, (tb_i1 (List.mem_of_getElem? (i := 12) rfl) rfl), tb_nh12, plainFor_of_name tb_pn12, rfl, fun h => Bool.noConfusion h⟩
theorem tb_k52 : mm_cf tb_P tb_TB tb_cn tb_ky tb_kb tb_hs 52 := ⟨Or.inl ⟨(tb_i11 (List.mem_of_getElem? (i := 169) rfl) rfl), rfl⟩, (tb_i1 (List.mem_of_getElem? (i := 12) rfl) rfl), tb_nh12, plainFor_of_name tb_pn12, rfl, fun h => Bool.noConfusion h⟩
theorem tb_k53 : mm_cf tb_P tb_TB tb_cn tb_ky tb_kb tb_hs 53 := ⟨Or.inl ⟨(tb_i11 (List.mem_of_getElem? (i := 181) rfl) rfl), rfl⟩, (tb_i1 (List.mem_of_getElem? (i := 12) rfl) rfl), tb_nh12, plainFor_of_name tb_pn12, rfl, fun h => Bool.noConfusion h⟩
theorem tb_k54 : mm_cf tb_P tb_TB tb_cn tb_ky tb_kb tb_hs 54 := ⟨Or.inl ⟨(tb_i11 (List.mem_of_getElem? (i := 185) rfl) rfl), rfl⟩, (tb_i1 (List.mem_of_getElem? (i := 12) rfl) rfl), tb_nh12, plainFor_of_name tb_pn12, rfl, fun h => Bool.noConfusion h⟩
theorem tb_k55 : mm_cf tb_P tb_TB tb_cn tb_ky tb_kb tb_hs 55 := ⟨Or.inl ⟨(tb_i10 (List.mem_of_getElem? (i := 98) rfl) rfl), rfl⟩, (tb_i1 (List.mem_of_getElem? (i := 12) rfl) rfl), tb_nh12, plainFor_of_name tb_pn12, rfl, fun h => Bool.noConfusion h⟩
theorem tb_k56 : mm_cf tb_P tb_TB tb_cn tb_ky tb_kb tb_hs 56 := ⟨Or.inl ⟨(tb_i10 (List.mem_of_getElem? (i := 95) rfl) rfl), rfl⟩, (tb_i1 (List.mem_of_getElem? (i := 12) rfl) rfl), tb_nh12, plainFor_of_name tb_pn12, rfl, fun h => Bool.noConfusion h⟩
theorem tb_k57 : mm_cf tb_P tb_TB tb_cn tb_ky tb_kb tb_hs 57 := ⟨Or.inl ⟨(tb_i10 (List.mem_of_getElem? (i := 110) rfl) rfl), rfl⟩, (tb_i1 (List.mem_of_getElem? (i := 12) rfl) rfl), tb_nh12, plainFor_of_name tb_pn12, rfl, fun h => Bool.noConfusion h⟩
theorem tb_k58 : mm_cf tb_P tb_TB tb_cn tb_ky tb_kb tb_hs 58 := ⟨Or.inl ⟨(tb_i10 (List.mem_of_getElem? (i := 106) rfl) rfl), rfl⟩, (tb_i1 (List.mem_of_getElem? (i := 12) rfl) rfl), tb_nh12, plainFor_of_name tb_pn12, rfl, fun h => Bool.noConfusion h⟩
theorem tb_k59 : mm_cf tb_P tb_TB tb_cn tb_ky tb_kb tb_hs 59 := ⟨Or.inl ⟨(tb_i10 (List.mem_of_getElem? (i := 91) rfl) rfl), rfl⟩, (tb_i1 (List.mem_of_getElem? (i := 12) rfl) rfl), tb_nh12, plainFor_of_name tb_pn12, rfl, fun h => Bool.noConfusion h⟩
theorem tb_k60 : mm_cf tb_P tb_TB tb_cn tb_ky tb_kb tb_hs 60 := ⟨Or.inl ⟨(tb_i1 (List.mem_of_getElem? (i := 31) rfl) rfl), rfl⟩, (tb_i1 (List.mem_of_getElem? (i := 1) rfl) rfl), tb_nh0, plainFor_of_name tb_pn0, rfl, fun _ => rfl⟩
theorem tb_k61 : mm_cf tb_P tb_TB tb_cn tb_ky tb_kb tb_hs 61 := ⟨Or.inl ⟨(tb_i6 (List.mem_of_getElem? (i := 43) rfl) rfl), rfl⟩, (tb_i1 (List.mem_of_getElem? (i := 1) rfl) rfl), tb_nh0, plainFor_of_name tb_pn0, rfl, fun h => Bool.noConfusion h⟩
theorem tb_k62 : mm_cf tb_P tb_TB tb_cn tb_ky tb_kb tb_hs 62 := ⟨Or.inl ⟨(tb_i2 (List.mem_of_getElem? (i := 166) rfl) rfl), rfl⟩, (tb_i1 (List.mem_of_getElem? (i := 1) rfl) rfl), tb_nh0, plainFor_of_name tb_pn0, rfl, fun h => Bool.noConfusion h⟩
theorem tb_k63 : mm_cf tb_P tb_TB tb_cn tb_ky tb_kb tb_hs 63 := ⟨Or.inl ⟨(tb_i2 (List.mem_of_getElem? (i := 170) rfl) rfl), rfl⟩, (tb_i1 (List.mem_of_getElem? (i := 1) rfl) rfl), tb_nh0, plainFor_of_name tb_pn0, rfl, fun h => Bool.noConfusion h⟩
theorem tb_k64 : mm_cf tb_P tb_TB tb_cn tb_ky tb_kb tb_hs 64 := ⟨Or.inl ⟨(tb_i4 (List.mem_of_getElem? (i := 121) rfl) rfl), rfl⟩, (tb_i1 (List.mem_of_getElem? (i := 1) rfl) rfl), tb_nh0, plainFor_of_name tb_pn0, rfl, fun h => Bool.noConfusion h⟩
theorem tb_k65 : mm_cf tb_P tb_TB tb_cn tb_ky tb_kb tb_hs 65 := ⟨Or.inl ⟨(tb_i4 (List.mem_of_getElem? (i := 125) rfl) rfl), rfl⟩, (tb_i1 (List.mem_of_getElem? (i := 1) rfl) rfl), tb_nh0, plainFor_of_name tb_pn0, rfl, fun h => Bool.noConfusion h⟩
theorem tb_k66 : mm_cf tb_P tb_TB tb_cn tb_ky tb_kb tb_hs 66 := ⟨Or.inl ⟨(tb_i6 (List.mem_of_getElem? (i := 11) rfl) rfl), rfl⟩, (tb_i1 (List.mem_of_getElem? (i := 1) rfl) rfl), tb_nh0, plainFor_of_name tb_pn0, rfl, fun h => Bool.noConfusion h⟩
theorem tb_k67 : mm_cf tb_P tb_TB tb_cn tb_ky tb_kb tb_hs 67 := ⟨Or.inl ⟨(tb_i6 (List.mem_of_getElem? (i := 61) rfl) rfl), rfl⟩, (tb_i1 (List.mem_of_getElem? (i := 1) rfl) rfl), tb_nh0, plainFor_of_name tb_pn0, rfl, fun h => Bool.noConfusion h⟩
theorem tb_k68 : mm_cf tb_P tb_TB tb_cn tb_ky tb_kb tb_hs 68 := ⟨Or.inl ⟨(tb_i6 (List.mem_of_getElem? (i := 88) rfl) rfl), rfl⟩, (tb_i1 (List.mem_of_getElem? (i := 1) rfl) rfl), tb_nh0, plainFor_of_name tb_pn0, rfl, fun h => Bool.noConfusion h⟩
theorem tb_k69 : mm_cf tb_P tb_TB tb_cn tb_ky tb_kb tb_hs 69 := ⟨Or.inl ⟨(tb_i6 (List.mem_of_getElem? (i := 104) rfl) rfl), rfl⟩, (tb_i1 (List.mem_of_getElem? (i := 1) rfl) rfl), tb_nh0, plainFor_of_name tb_pn0, rfl, fun h => Bool.noConfusion h⟩
theorem tb_k70 : mm_cf tb_P tb_TB tb_cn tb_ky tb_kb tb_hs 70 := ⟨Or.inl ⟨(tb_i6 (List.mem_of_getElem? (i := 121) rfl) rfl), rfl⟩, (tb_i1 (List.mem_of_getElem? (i := 1) rfl) rfl), tb_nh0, plainFor_of_name tb_pn0, rfl, fun h => Bool.noConfusion h⟩
theorem tb_k71 : mm_cf tb_P tb_TB tb_cn tb_ky tb_kb tb_hs 71 := ⟨Or.inl ⟨(tb_i6 (List.mem_of_getElem? (i := 142) rfl) rfl), rfl⟩, (tb_i1 (List.mem_of_getElem? (i := 1) rfl) rfl), tb_nh0, plainFor_of_name tb_pn0, rfl, fun h => Bool.noConfusion h⟩
theorem tb_k72 : mm_cf tb_P tb_TB tb_cn tb_ky tb_kb tb_hs 72 := ⟨Or.inl ⟨(tb_i6 (List.mem_of_getElem? (i := 154) rfl) rfl), rfl⟩, (tb_i1 (List.mem_of_getElem? (i := 1) rfl) rfl), tb_nh0, plainFor_of_name tb_pn0, rfl, fun h => Bool.noConfusion h⟩
theorem tb_k73 : mm_cf tb_P tb_TB tb_cn tb_ky tb_kb tb_hs 73 := ⟨Or.inl ⟨(tb_i6 (List.mem_of_getElem? (i := 175) rfl) rfl), rfl⟩, (tb_i1 (List.mem_of_getElem? (i := 1) rfl) rfl), tb_nh0, plainFor_of_name tb_pn0, rfl, fun h => Bool.noConfusion h⟩
theorem tb_k74 : mm_cf tb_P tb_TB tb_cn tb_ky tb_kb tb_hs 74 := ⟨Or.inl ⟨(tb_i6 (List.mem_of_getElem? (i := 191) rfl) rfl), rfl⟩, (tb_i1 (List.mem_of_getElem? (i := 1) rfl) rfl), tb_nh0, plainFor_of_name tb_pn0, rfl, fun h => Bool.noConfusion h⟩
theorem tb_k75 : mm_cf tb_P tb_TB tb_cn tb_ky tb_kb tb_hs 75 := ⟨Or.inl ⟨(tb_i6 (List.mem_of_getElem? (i := 203) rfl) rfl), rfl⟩, (tb_i1 (List.mem_of_getElem? (i := 1) rfl) rfl), tb_nh0, plainFor_of_name tb_pn0, rfl, fun h => Bool.noConfusion h⟩
theorem tb_k76 : mm_cf tb_P tb_TB tb_cn tb_ky tb_kb tb_hs 76 := ⟨Or.inl ⟨(tb_i7 (List.mem_of_getElem? (i := 93) rfl) rfl), rfl⟩, (tb_i1 (List.mem_of_getElem? (i := 1) rfl) rfl), tb_nh0, plainFor_of_name tb_pn0, rfl, fun h => Bool.noConfusion h⟩
theorem tb_k77 : mm_cf tb_P tb_TB tb_cn tb_ky tb_kb tb_hs 77 := ⟨Or.inl ⟨(tb_i6 (List.mem_of_getElem? (i := 15) rfl) rfl), rfl⟩, (tb_i1 (List.mem_of_getElem? (i := 1) rfl) rfl), tb_nh0, plainFor_of_name tb_pn0, rfl, fun h => Bool.noConfusion h⟩
theorem tb_k78 : mm_cf tb_P tb_TB tb_cn tb_ky tb_kb tb_hs 78 := ⟨Or.inl ⟨(tb_i7 (List.mem_of_getElem? (i := 105) rfl) rfl), rfl⟩, (tb_i1 (List.mem_of_getElem? (i := 1) rfl) rfl), tb_nh0, plainFor_of_name tb_pn0, rfl, fun h => Bool.noConfusion h⟩
theorem tb_k79 : mm_cf tb_P tb_TB tb_cn tb_ky tb_kb tb_hs 79 := ⟨Or.inl ⟨(tb_i7 (List.mem_of_getElem? (i := 126) rfl) rfl), rfl⟩, (tb_i1 (List.mem_of_getElem? (i := 1) rfl) rfl), tb_nh0, plainFor_of_name tb_pn0, rfl, fun h => Bool.noConfusion h⟩
theorem tb_k80 : mm_cf tb_P tb_TB tb_cn tb_ky tb_kb tb_hs 80 := ⟨Or.inl ⟨(tb_i6 (List.mem_of_getElem? (i := 35) rfl) rfl), rfl⟩, (tb_i1 (List.mem_of_getElem? (i := 1) rfl) rfl), tb_nh0, plainFor_of_name tb_pn0, rfl, fun h => Bool.noConfusion h⟩
theorem tb_k81 : mm_cf tb_P tb_TB tb_cn tb_ky tb_kb tb_hs 81 := ⟨Or.inl ⟨(tb_i6 (List.mem_of_getElem? (i := 124) rfl) rfl), rfl⟩, (tb_i1 (List.mem_of_getElem? (i := 1) rfl) rfl), tb_nh0, plainFor_of_name tb_pn0, rfl, fun h => Bool.noConfusion h⟩
theorem tb_k82 : mm_cf tb_P tb_TB tb_cn tb_ky tb_kb tb_hs 82 := ⟨Or.inl ⟨(tb_i6 (List.mem_of_getElem? (i := 127) rfl) rfl), rfl⟩, (tb_i1 (List.mem_of_getElem? (i := 1) rfl) rfl), tb_nh0, plainFor_of_name tb_pn0, rfl, fun h => Bool.noConfusion h⟩
theorem tb_k83 : mm_cf tb_P tb_TB tb_cn tb_ky tb_kb tb_hs 83 := ⟨Or.inl ⟨(tb_i7 (List.mem_of_getElem? (i := 108) rfl) rfl), rfl⟩, (tb_i1 (List.mem_of_getElem? (i := 1) rfl) rfl), tb_nh0, plainFor_of_name tb_pn0, rfl, fun h => Bool.noConfusion h⟩
theorem tb_k84 : mm_cf tb_P tb_TB tb_cn tb_ky tb_kb tb_hs 84 := ⟨Or.inl ⟨(tb_i7 (List.mem_of_getElem? (i := 111) rfl) rfl), rfl⟩, (tb_i1 (List.mem_of_getElem? (i := 1) rfl) rfl), tb_nh0, plainFor_of_name tb_pn0, rfl, fun h => Bool.noConfusion h⟩
theorem tb_k85 : mm_cf tb_P tb_TB tb_cn tb_ky tb_kb tb_hs 85 := ⟨Or.inl ⟨(tb_i6 (List.mem_of_getElem? (i := 46) rfl) rfl), rfl⟩, (tb_i1 (List.mem_of_getElem? (i := 1) rfl) rfl), tb_nh0, plainFor_of_name tb_pn0, rfl, fun h => Bool.noConfusion h⟩
theorem tb_k86 : mm_cf tb_P tb_TB tb_cn tb_ky tb_kb tb_hs 86 := ⟨Or.inl ⟨(tb_i6 (List.mem_of_getElem? (i := 109) rfl) rfl), rfl⟩, (tb_i1 (List.mem_of_getElem? (i := 1) rfl) rfl), tb_nh0, plainFor_of_name tb_pn0, rfl, fun h => Bool.noConfusion h⟩
theorem tb_k87 : mm_cf tb_P tb_TB tb_cn tb_ky tb_kb tb_hs 87 := ⟨Or.inl ⟨(tb_i2 (List.mem_of_getElem? (i := 174) rfl) rfl), rfl⟩, (tb_i1 (List.mem_of_getElem? (i := 1) rfl) rfl), tb_nh0, plainFor_of_name tb_pn0, rfl, fun h => Bool.noConfusion h⟩
theorem tb_k88 : mm_cf tb_P tb_TB tb_cn tb_ky tb_kb tb_hs 88 := ⟨Or.inl ⟨(tb_i1 (List.mem_of_getElem? (i := 39) rfl) rfl), rfl⟩, (tb_i1 (List.mem_of_getElem? (i := 2) rfl) rfl), tb_nh1, plainFor_of_name tb_pn1, rfl, fun _ => rfl⟩
theorem tb_k89 : mm_cf tb_P tb_TB tb_cn tb_ky tb_kb tb_hs 89 := ⟨Or.inl ⟨(tb_i6 (List.mem_of_getElem? (i := 53) rfl) rfl), rfl⟩, (tb_i1 (List.mem_of_getElem? (i := 2) rfl) rfl), tb_nh1, plainFor_of_name tb_pn1, rfl, fun h => Bool.noConfusion h⟩
theorem tb_k90 : mm_cf tb_P tb_TB tb_cn tb_ky tb_kb tb_hs 90 := ⟨Or.inl ⟨(tb_i3 (List.mem_of_getElem? (i := 16) rfl) rfl), rfl⟩, (tb_i1 (List.mem_of_getElem? (i := 2) rfl) rfl), tb_nh1, plainFor_of_name tb_pn1, rfl, fun h => Bool.noConfusion h⟩
theorem tb_k91 : mm_cf tb_P tb_TB tb_cn tb_ky tb_kb tb_hs 91 := ⟨Or.inl ⟨(tb_i3 (List.mem_of_getElem? (i := 134) rfl) rfl), rfl⟩, (tb_i1 (List.mem_of_getElem? (i := 2) rfl) rfl), tb_nh1, plainFor_of_name tb_pn1, rfl, fun h => Bool.noConfusion h⟩
theorem tb_k92 : mm_cf tb_P tb_TB tb_cn tb_ky tb_kb tb_hs 92 := ⟨Or.inl ⟨(tb_i3 (List.mem_of_getElem? (i := 142) rfl) rfl), rfl⟩, (tb_i1 (List.mem_of_getElem? (i := 2) rfl) rfl), tb_nh1, plainFor_of_name tb_pn1, rfl, fun h => Bool.noConfusion h⟩
theorem tb_k93 : mm_cf tb_P tb_TB tb_cn tb_ky tb_kb tb_hs 93 := ⟨Or.inl ⟨(tb_i3 (List.mem_of_getElem? (i := 36) rfl) rfl), rfl⟩, (tb_i1 (List.mem_of_getElem? (i := 2) rfl) rfl), tb_nh1, plainFor_of_name tb_pn1, rfl, fun h => Bool.noConfusion h⟩
theorem tb_k94 : mm_cf tb_P tb_TB tb_cn tb_ky tb_kb tb_hs 94 := ⟨Or.inl ⟨(tb_i1 (List.mem_of_getElem? (i := 82) rfl) rfl), rfl⟩, (tb_i1 (List.mem_of_getElem? (i := 3) rfl) rfl), tb_nh2, plainFor_of_name tb_pn2, rfl, fun _ => rfl⟩
theorem tb_k95 : mm_cf tb_P tb_TB tb_cn tb_ky tb_kb tb_hs 95 := ⟨Or.inr (tb_i3 (List.mem_of_getElem? (i := 7) rfl) rfl), (tb_i1 (List.mem_of_getElem? (i := 3) rfl) rfl), tb_nh2, plainFor_of_name tb_pn2, rfl, fun h => Bool.noConfusion h⟩
theorem tb_k96 : mm_cf tb_P tb_TB tb_cn tb_ky tb_kb tb_hs 96 := ⟨Or.inl ⟨(tb_i3 (List.mem_of_getElem? (i := 138) rfl) rfl), rfl⟩, (tb_i1 (List.mem_of_getElem? (i := 3) rfl) rfl), tb_nh2, plainFor_of_name tb_pn2, rfl, fun h => Bool.noConfusion h⟩
theorem tb_k97 : mm_cf tb_P tb_TB tb_cn tb_ky tb_kb tb_hs 97 := ⟨Or.inl ⟨(tb_i3 (List.mem_of_getElem? (i := 146) rfl) rfl), rfl⟩, (tb_i1 (List.mem_of_getElem? (i := 3) rfl) rfl), tb_nh2, plainFor_of_name tb_pn2, rfl, fun h => Bool.noConfusion h⟩
theorem tb_k98 : mm_cf tb_P tb_TB tb_cn tb_ky tb_kb tb_hs 98 := ⟨Or.inl ⟨(tb_i1 (List.mem_of_getElem? (i := 113) rfl) rfl), rfl⟩, (tb_i1 (List.mem_of_getElem? (i := 6) rfl) rfl), tb_nh3, plainFor_of_name tb_pn3, rfl, fun _ => rfl⟩
theorem tb_k99 : mm_cf tb_P tb_TB tb_cn tb_ky tb_kb tb_hs 99 := ⟨Or.inl ⟨(tb_i5 (List.mem_of_getElem? (i := 96) rfl) rfl), rfl⟩, (tb_i1 (List.mem_of_getElem? (i := 6) rfl) rfl), tb_nh3, plainFor_of_name tb_pn3, rfl, fun h => Bool.noConfusion h⟩
theorem tb_k100 : mm_cf tb_P tb_TB tb_cn tb_ky tb_kb tb_hs 100 := ⟨Or.inl ⟨(tb_i5 (List.mem_of_getElem? (i := 118) rfl) rfl), rfl⟩, (tb_i1 (List.mem_of_getElem? (i := 6) rfl) rfl), tb_nh3, plainFor_of_name tb_pn3, rfl, fun h => Bool.noConfusion h⟩
theorem tb_k101 : mm_cf tb_P tb_TB tb_cn tb_ky tb_kb tb_hs 101 := ⟨Or.inl ⟨(tb_i5 (List.mem_of_getElem? (i := 103) rfl) rfl), rfl⟩, (tb_i1 (List.mem_of_getElem? (i := 6) rfl) rfl), tb_nh3, plainFor_of_name tb_pn3, rfl, fun h => Bool.noConfusion h⟩
theorem tb_k102 : mm_cf tb_P tb_TB tb_cn tb_ky tb_kb tb_hs 102 := ⟨Or.inl ⟨(tb_i1 (List.mem_of_getElem? (i := 146) rfl) rfl), rfl⟩, (tb_i1 (List.mem_of_getElem? (i := 8) rfl) rfl), tb_nh4, plainFor_of_name tb_pn4, rfl, fun _ => rfl⟩
theorem tb_k103 : mm_cf tb_P tb_TB tb_cn tb_ky tb_kb tb_hs 103 := ⟨Or.inl ⟨(tb_i4 (List.mem_of_getElem? (i := 208) rfl) rfl), rfl⟩, (tb_i1 (List.mem_of_getElem? (i := 8) rfl) rfl), tb_nh4, plainFor_of_name tb_pn4, rfl, fun h => Bool.noConfusion h⟩
theorem tb_k104 : mm_cf tb_P tb_TB tb_cn tb_ky tb_kb tb_hs 104 := ⟨Or.inl ⟨(tb_i7 (List.mem_of_getElem? (i := 118) rfl) rfl), rfl⟩, (tb_i1 (List.mem_of_getElem? (i := 8) rfl) rfl), tb_nh4, plainFor_of_name tb_pn4, rfl, fun h => Bool.noConfusion h⟩
theorem tb_k105 : mm_cf tb_P tb_TB tb_cn tb_ky tb_kb tb_hs 105 := ⟨Or.inl ⟨(tb_i1 (List.mem_of_getElem? (i := 107) rfl) rfl), rfl⟩, (tb_i1 (List.mem_of_getElem? (i := 5) rfl) rfl), tb_nh5, plainFor_of_name tb_pn5, rfl, fun _ => rfl⟩
theorem tb_k106 : mm_cf tb_P tb_TB tb_cn tb_ky tb_kb tb_hs 106 := ⟨Or.inl ⟨(tb_i4 (List.mem_of_getElem? (i := 136) rfl) rfl), rfl⟩, (tb_i1 (List.mem_of_getElem? (i := 5) rfl) rfl), tb_nh5, plainFor_of_name tb_pn5, rfl, fun h => Bool.noConfusion h⟩
theorem tb_k107 : mm_cf tb_P tb_TB tb_cn tb_ky tb_kb tb_hs 107 := ⟨Or.inl ⟨(tb_i5 (List.mem_of_getElem? (i := 37) rfl) rfl), rfl⟩, (tb_i1 (List.mem_of_getElem? (i := 5) rfl) rfl), tb_nh5, plainFor_of_name tb_pn5, rfl, fun h => Bool.noConfusion h⟩
theorem tb_k108 : mm_cf tb_P tb_TB tb_cn tb_ky tb_kb tb_hs 108 := ⟨Or.inl ⟨(tb_i7 (List.mem_of_getElem? (i := 130) rfl) rfl), rfl⟩, (tb_i1 (List.mem_of_getElem? (i := 5) rfl) rfl), tb_nh5, plainFor_of_name tb_pn5, rfl, fun h => Bool.noConfusion h⟩
theorem tb_k109 : mm_cf tb_P tb_TB tb_cn tb_ky tb_kb tb_hs 109 := ⟨Or.inl ⟨(tb_i1 (List.mem_of_getElem? (i := 101) rfl) rfl), rfl⟩, (tb_i1 (List.mem_of_getElem? (i := 4) rfl) rfl), tb_nh6, plainFor_of_name tb_pn6, rfl, fun _ => rfl⟩
theorem tb_k110 : mm_cf tb_P tb_TB tb_cn tb_ky tb_kb tb_hs 110 := ⟨Or.inr (tb_i4 (List.mem_of_getElem? (i := 129) rfl) rfl), (tb_i1 (List.mem_of_getElem? (i := 4) rfl) rfl), tb_nh6, plainFor_of_name tb_pn6, rfl, fun h => Bool.noConfusion h⟩
theorem tb_k111 : mm_cf tb_P tb_TB tb_cn tb_ky tb_kb tb_hs 111 := ⟨Or.inl ⟨(tb_i5 (List.mem_of_getElem? (i := 217) rfl) rfl), rfl⟩, (tb_i1 (List.mem_of_getElem? (i := 4) rfl) rfl), tb_nh6, plainFor_of_name tb_pn6, rfl, fun h => Bool.noConfusion h⟩
theorem tb_k112 : mm_cf tb_P tb_TB tb_cn tb_ky tb_kb tb_hs 112 := ⟨Or.inl ⟨(tb_i6 (List.mem_of_getElem? (i := 81) rfl) rfl), rfl⟩, (tb_i1 (List.mem_of_getElem? (i := 4) rfl) rfl), tb_nh6, plainFor_of_name tb_pn6, rfl, fun h => Bool.noConfusion h⟩
theorem tb_k113 : mm_cf tb_P tb_TB tb_cn tb_ky tb_kb tb_hs 113 := ⟨Or.inl ⟨(tb_i2 (List.mem_of_getElem? (i := 25) rfl) rfl), rfl⟩, (tb_i1 (List.mem_of_getElem? (i := 9) rfl) rfl), tb_nh7, plainFor_of_name tb_pn7, rfl, fun _ => rfl⟩
theorem tb_k114 : mm_cf tb_P tb_TB tb_cn tb_ky tb_kb tb_hs 114 := ⟨Or.inl ⟨(tb_i5 (List.mem_of_getElem? (i := 221) rfl) rfl), rfl⟩, (tb_i1 (List.mem_of_getElem? (i := 9) rfl) rfl), tb_nh7, plainFor_of_name tb_pn7, rfl, fun h => Bool.noConfusion h⟩
theorem tb_k115 : mm_cf tb_P tb_TB tb_cn tb_ky tb_kb tb_hs 115 := ⟨Or.inl ⟨(tb_i2 (List.mem_of_getElem? (i := 58) rfl) rfl), rfl⟩, (tb_i1 (List.mem_of_getElem? (i := 10) rfl) rfl), tb_nh8, plainFor_of_name tb_pn8, rfl, fun _ => rfl⟩
theorem tb_k116 : mm_cf tb_P tb_TB tb_cn tb_ky tb_kb tb_hs 116 := ⟨Or.inl ⟨(tb_i6 (List.mem_of_getElem? (i := 134) rfl) rfl), rfl⟩, (tb_i1 (List.mem_of_getElem? (i := 10) rfl) rfl), tb_nh8, plainFor_of_name tb_pn8, rfl, fun h => Bool.noConfusion h⟩
theorem tb_k117 : mm_cf tb_P tb_TB tb_cn tb_ky tb_kb tb_hs 117 := ⟨Or.inl ⟨(tb_i6 (List.mem_of_getElem? (i := 147) rfl) rfl), rfl⟩, (tb_i1 (List.mem_of_getElem? (i := 10) rfl) rfl), tb_nh8, plainFor_of_name tb_pn8, rfl, fun h => Bool.noConfusion h⟩
theorem tb_k118 : mm_cf tb_P tb_TB tb_cn tb_ky tb_kb tb_hs 118 := ⟨Or.inl ⟨(tb_i6 (List.mem_of_getElem? (i := 162) rfl) rfl), rfl⟩, (tb_i1 (List.mem_of_getElem? (i := 10) rfl) rfl), tb_nh8, plainFor_of_name tb_pn8, rfl, fun h => Bool.noConfusion h⟩
theorem tb_k119 : mm_cf tb_P tb_TB tb_cn tb_ky tb_kb tb_hs 119 := ⟨Or.inl ⟨(tb_i6 (List.mem_of_getElem? (i := 158) rfl) rfl), rfl⟩, (tb_i1 (List.mem_of_getElem? (i := 10) rfl) rfl), tb_nh8, plainFor_of_name tb_pn8, rfl, fun h => Bool.noConfusion h⟩
theorem tb_k120 : mm_cf tb_P tb_TB tb_cn tb_ky tb_kb tb_hs 120 := ⟨Or.inl ⟨(tb_i6 (List.mem_of_getElem? (i := 180) rfl) rfl), rfl⟩, (tb_i1 (List.mem_of_getElem? (i := 10) rfl) rfl), tb_nh8, plainFor_of_name tb_pn8, rfl, fun h => Bool.noConfusion h⟩
theorem tb_k121 : mm_cf tb_P tb_TB tb_cn tb_ky tb_kb tb_hs 121 := ⟨Or.inl ⟨(tb_i6 (List.mem_of_getElem? (i := 184) rfl) rfl), rfl⟩, (tb_i1 (List.mem_of_getElem? (i := 10) rfl) rfl), tb_nh8, plainFor_of_name tb_pn8, rfl, fun h => Bool.noConfusion h⟩
theorem tb_k122 : mm_cf tb_P tb_TB tb_cn tb_ky tb_kb tb_hs 122 := ⟨Or.inl ⟨(tb_i6 (List.mem_of_getElem? (i := 167) rfl) rfl), rfl⟩, (tb_i1 (List.mem_of_getElem? (i := 10) rfl) rfl), tb_nh8, plainFor_of_name tb_pn8, rfl, fun h => Bool.noConfusion h⟩
theorem tb_k123 : mm_cf tb_P tb_TB tb_cn tb_ky tb_kb tb_hs 123 := ⟨Or.inl ⟨(tb_i6 (List.mem_of_getElem? (i := 196) rfl) rfl), rfl⟩, (tb_i1 (List.mem_of_getElem? (i := 10) rfl) rfl), tb_nh8, plainFor_of_name tb_pn8, rfl, fun h => Bool.noConfusion h⟩
theorem tb_k124 : mm_cf tb_P tb_TB tb_cn tb_ky tb_kb tb_hs 124 := ⟨Or.inl ⟨(tb_i2 (List.mem_of_getElem? (i := 77) rfl) rfl), rfl⟩, (tb_i1 (List.mem_of_getElem? (i := 11) rfl) rfl), tb_nh9, plainFor_of_name tb_pn9, rfl, fun _ => rfl⟩
theorem tb_k125 : mm_cf tb_P tb_TB tb_cn tb_ky tb_kb tb_hs 125 := ⟨Or.inl ⟨(tb_i7 (List.mem_of_getElem? (i := 98) rfl) rfl), rfl⟩, (tb_i1 (List.mem_of_getElem? (i := 11) rfl) rfl), tb_nh9, plainFor_of_name tb_pn9, rfl, fun h => Bool.noConfusion h⟩
theorem tb_k126 : mm_cf tb_P tb_TB tb_cn tb_ky tb_kb tb_hs 126 := ⟨Or.inl ⟨(tb_i6 (List.mem_of_getElem? (i := 31) rfl) rfl), rfl⟩, (tb_i1 (List.mem_of_getElem? (i := 11) rfl) rfl), tb_nh9, plainFor_of_name tb_pn9, rfl, fun h => Bool.noConfusion h⟩
theorem tb_k127 : mm_cf tb_P tb_TB tb_cn tb_ky tb_kb tb_hs 127 := ⟨Or.inl ⟨(tb_i6 (List.mem_of_getElem? (i := 19) rfl) rfl), rfl⟩, (tb_i1 (List.mem_of_getElem? (i := 11) rfl) rfl), tb_nh9, plainFor_of_name tb_pn9, rfl, fun h => Bool.noConfusion h⟩
theorem tb_k128 : mm_cf tb_P tb_TB tb_cn tb_ky tb_kb tb_hs 128 := ⟨Or.inl ⟨(tb_i2 (List.mem_of_getElem? (i := 182) rfl) rfl), rfl⟩, (tb_i1 (List.mem_of_getElem? (i := 17) rfl) rfl), tb_nh10, plainFor_of_name tb_pn10, rfl, fun _ => rfl⟩
theorem tb_k129 : mm_cf tb_P tb_TB tb_cn tb_ky tb_kb tb_hs 129 := ⟨Or.inl ⟨(tb_i3 (List.mem_of_getElem? (i := 12) rfl) rfl), rfl⟩, (tb_i1 (List.mem_of_getElem? (i := 17) rfl) rfl), tb_nh10, plainFor_of_name tb_pn10, rfl, fun h => Bool.noConfusion h⟩
theorem tb_k130 : mm_cf tb_P tb_TB tb_cn tb_ky tb_kb tb_hs 130 := ⟨Or.inl ⟨(tb_i1 (List.mem_of_getElem? (i := 140) rfl) rfl), rfl⟩, (tb_i1 (List.mem_of_getElem? (i := 7) rfl) rfl), tb_nh16, by decide +kernel, rfl, fun h => Bool.noConfusion h⟩
theorem tb_k131 : mm_cf tb_P tb_TB tb_cn tb_ky tb_kb tb_hs 131 := ⟨Or.inl ⟨(tb_i2 (List.mem_of_getElem? (i := 177) rfl) rfl), rfl⟩, (tb_i1 (List.mem_of_getElem? (i := 7) rfl) rfl), tb_nh16, by decide +kernel, rfl, fun h => Bool.noConfusion h⟩
theorem tb_k132 : mm_cf tb_P tb_TB tb_cn tb_ky tb_kb tb_hs 132 := ⟨Or.inl ⟨(tb_i5 (List.mem_of_getElem? (i := 106) rfl) rfl), rfl⟩, (tb_i1 (List.mem_of_getElem? (i := 7) rfl) rfl), tb_nh16, by decide +kernel, rfl, fun h => Bool.noConfusion h⟩
theorem tb_k133 : mm_cf tb_P tb_TB tb_cn tb_ky tb_kb tb_hs 133 := ⟨Or.inl ⟨(tb_i5 (List.mem_of_getElem? (i := 109) rfl) rfl), rfl⟩, (tb_i1 (List.mem_of_getElem? (i := 7) rfl) rfl), tb_nh16, by decide +kernel, rfl, fun h => Bool.noConfusion h⟩
theorem tb_k134 : mm_cf tb_P tb_TB tb_cn tb_ky tb_kb tb_hs 134 := ⟨Or.inl ⟨(tb_i5 (List.mem_of_getElem? (i := 114) rfl) rfl), rfl⟩, (tb_i1 (List.mem_of_getElem? (i := 7) rfl) rfl), tb_nh16, by decide +kernel, rfl, fun h => Bool.noConfusion h⟩
theorem tb_k135 : mm_cf tb_P tb_TB tb_cn tb_ky tb_kb tb_hs 135 := ⟨Or.inl ⟨(tb_i4 (List.mem_of_getElem? (i := 211) rfl) rfl), rfl⟩, (tb_i1 (List.mem_of_getElem? (i := 24) rfl) rfl), tb_nh17, by decide +kernel, rfl, fun h => Bool.noConfusion h⟩
theorem tb_y0 : (parseMethodDescriptor "()I").map (fun d => d.parameters.length + 1) = some 1 := by decide +kernel
theorem tb_y1 : (parseMethodDescriptor "()V").map (fun d => d.parameters.length + 1) = some 1 := by decide +kernel
theorem tb_y2 : (parseMethodDescriptor "()Z").map (fun d => d.parameters.length + 1) = some 1 := by decide +kernel
theorem tb_y3 : (parseMethodDescriptor "(I)I").map (fun d => d.parameters.length) = some 1 := by decide +kernel
theorem tb_y4 : (parseMethodDescriptor "(I)I").map (fun d => d.parameters.length + 1) = some 2 := by decide +kernel
theorem tb_y5 : (parseMethodDescriptor "(I)LIndexedCompiler$Tree;").map (fun d => d.parameters.length + 1) = some 2 := by decide +kernel
theorem tb_y6 : (parseMethodDescriptor "(I)V").map (fun d => d.parameters.length + 1) = some 2 := by decide +kernel
theorem tb_y7 : (parseMethodDescriptor "(I)Z").map (fun d => d.parameters.length) = some 1 := by decide +kernel
theorem tb_y8 : (parseMethodDescriptor "(I)Z").map (fun d => d.parameters.length + 1) = some 2 := by decide +kernel
theorem tb_y9 : (parseMethodDescriptor "(II)I").map (fun d => d.parameters.length) = some 2 := by decide +kernel
theorem tb_y10 : (parseMethodDescriptor "(II)I").map (fun d => d.parameters.length + 1) = some 3 := by decide +kernel
theorem tb_y11 : (parseMethodDescriptor "(II)V").map (fun d => d.parameters.length + 1) = some 3 := by decide +kernel
theorem tb_y12 : (parseMethodDescriptor "(II)Z").map (fun d => d.parameters.length) = some 2 := by decide +kernel
theorem tb_y13 : (parseMethodDescriptor "(II)Z").map (fun d => d.parameters.length + 1) = some 3 := by decide +kernel
theorem tb_y14 : (parseMethodDescriptor "(III)I").map (fun d => d.parameters.length + 1) = some 4 := by decide +kernel
theorem tb_y15 : (parseMethodDescriptor "(III)V").map (fun d => d.parameters.length + 1) = some 4 := by decide +kernel
theorem tb_y16 : (parseMethodDescriptor "(IIII)I").map (fun d => d.parameters.length + 1) = some 5 := by decide +kernel
theorem tb_y17 : (parseMethodDescriptor "(IIII)V").map (fun d => d.parameters.length + 1) = some 5 := by decide +kernel
theorem tb_y18 : (parseMethodDescriptor "(IIII)Z").map (fun d => d.parameters.length) = some 4 := by decide +kernel
theorem tb_y19 : (parseMethodDescriptor "(IIII)Z").map (fun d => d.parameters.length + 1) = some 5 := by decide +kernel
theorem tb_y20 : (parseMethodDescriptor "(IIIII)I").map (fun d => d.parameters.length + 1) = some 6 := by decide +kernel
theorem tb_y21 : (parseMethodDescriptor "(IZ)I").map (fun d => d.parameters.length + 1) = some 3 := by decide +kernel
theorem tb_y22 : (parseMethodDescriptor "(J)J").map (fun d => d.parameters.length) = some 1 := by decide +kernel
theorem tb_y23 : (parseMethodDescriptor "(J)V").map (fun d => d.parameters.length + 1) = some 2 := by decide +kernel
theorem tb_y24 : (parseMethodDescriptor "(JJ)J").map (fun d => d.parameters.length) = some 2 := by decide +kernel
theorem tb_y25 : (parseMethodDescriptor "(JJJ)Z").map (fun d => d.parameters.length) = some 3 := by decide +kernel
theorem tb_y26 : (parseMethodDescriptor "(LIndexedCompiler$Expression;)Z").map (fun d => d.parameters.length + 1) = some 2 := by decide +kernel
theorem tb_y27 : (parseMethodDescriptor "(LIndexedCompiler$Expression;I)V").map (fun d => d.parameters.length + 1) = some 3 := by decide +kernel
theorem tb_y28 : (parseMethodDescriptor "(LIndexedCompiler$Line;LIndexedCompiler$Tree;)Z").map (fun d => d.parameters.length + 1) = some 3 := by decide +kernel
theorem tb_y29 : (parseMethodDescriptor "(LIndexedCompiler;II)I").map (fun d => d.parameters.length) = some 3 := by decide +kernel
theorem tb_y30 : (parseMethodDescriptor "(LIndexedCompiler;III)I").map (fun d => d.parameters.length) = some 4 := by decide +kernel
theorem tb_y31 : (parseMethodDescriptor "(LIndexedCompiler;IIIII[J)I").map (fun d => d.parameters.length) = some 7 := by decide +kernel
theorem tb_y32 : (parseMethodDescriptor "(LIndexedCompiler;IIII[J)I").map (fun d => d.parameters.length) = some 6 := by decide +kernel
theorem tb_y33 : (parseMethodDescriptor "(LIndexedCompiler;III[J)I").map (fun d => d.parameters.length) = some 5 := by decide +kernel
theorem tb_y34 : (parseMethodDescriptor "(LIndexedCompiler;II[J)I").map (fun d => d.parameters.length) = some 4 := by decide +kernel
theorem tb_y35 : (parseMethodDescriptor "(LIndexedCompiler;I[J)I").map (fun d => d.parameters.length) = some 3 := by decide +kernel
theorem tb_y36 : (parseMethodDescriptor "([JI)Z").map (fun d => d.parameters.length + 1) = some 3 := by decide +kernel
theorem tb_y37 : (parseMethodDescriptor "([JIIIII)V").map (fun d => d.parameters.length) = some 6 := by decide +kernel
theorem tb_y38 : (parseMethodDescriptor "([JIILIndexedCompiler$Expression;)Z").map (fun d => d.parameters.length + 1) = some 5 := by decide +kernel
theorem tb_y39 : (parseMethodDescriptor "([JJ)V").map (fun d => d.parameters.length) = some 2 := by decide +kernel
theorem tb_y40 : (parseMethodDescriptor "([LIndexedCompiler$Tree;I)I").map (fun d => d.parameters.length + 1) = some 3 := by decide +kernel
theorem tb_y41 : (parseMethodDescriptor "([LIndexedCompiler$Tree;I)V").map (fun d => d.parameters.length + 1) = some 3 := by decide +kernel
set_option maxRecDepth 20000 in
theorem tb_ml_0 : mm_allL (fun q => (fun (o i : Nat) (v : Nat × Nat × Nat) => mm_mR tb_P tb_TB tb_cl tb_cn tb_ky tb_kb tb_hs o i v) 0 q.1 q.2) ((tb_ML[0]?).getD []) := ⟨mm_mr3 ⟨(tb_i1 (List.mem_of_getElem? (i := 32) rfl) rfl), (tb_i1 (List.mem_of_getElem? (i := 33) rfl) rfl), (tb_i1 (List.mem_of_getElem? (i := 34) rfl) rfl)⟩,
  mm_mr2 tb_k88 (tb_i1 (List.mem_of_getElem? (i := 37) rfl) rfl) (tb_i1 (List.mem_of_getElem? (i := 38) rfl) rfl) rfl rfl (tb_i1 (List.mem_of_getElem? (i := 39) rfl) rfl) tb_y1,
  mm_mr2 tb_k94 (tb_i1 (List.mem_of_getElem? (i := 80) rfl) rfl) (tb_i1 (List.mem_of_getElem? (i := 81) rfl) rfl) rfl rfl (tb_i1 (List.mem_of_getElem? (i := 82) rfl) rfl) tb_y1,
  mm_mr2 tb_k109 (tb_i1 (List.mem_of_getElem? (i := 99) rfl) rfl) (tb_i1 (List.mem_of_getElem? (i := 100) rfl) rfl) rfl rfl (tb_i1 (List.mem_of_getElem? (i := 101) rfl) rfl) tb_y1,
  mm_mr2 tb_k113 (tb_i2 (List.mem_of_getElem? (i := 23) rfl) rfl) (tb_i2 (List.mem_of_getElem? (i := 24) rfl) rfl) rfl rfl (tb_i2 (List.mem_of_getElem? (i := 25) rfl) rfl) tb_y1,
  mm_mr2 tb_k115 (tb_i2 (List.mem_of_getElem? (i := 56) rfl) rfl) (tb_i2 (List.mem_of_getElem? (i := 57) rfl) rfl) rfl rfl (tb_i2 (List.mem_of_getElem? (i := 58) rfl) rfl) tb_y1,
  mm_mr2 tb_k124 (tb_i2 (List.mem_of_getElem? (i := 75) rfl) rfl) (tb_i2 (List.mem_of_getElem? (i := 76) rfl) rfl) rfl rfl (tb_i2 (List.mem_of_getElem? (i := 77) rfl) rfl) tb_y1,
  mm_mr2 tb_k105 (tb_i2 (List.mem_of_getElem? (i := 123) rfl) rfl) (tb_i1 (List.mem_of_getElem? (i := 106) rfl) rfl) rfl rfl (tb_i1 (List.mem_of_getElem? (i := 107) rfl) rfl) tb_y11,
  mm_mr2 tb_k102 (tb_i2 (List.mem_of_getElem? (i := 125) rfl) rfl) (tb_i1 (List.mem_of_getElem? (i := 145) rfl) rfl) rfl rfl (tb_i1 (List.mem_of_getElem? (i := 146) rfl) rfl) tb_y1,
  mm_mr0 tb_k85 (tb_i6 (List.mem_of_getElem? (i := 44) rfl) rfl) (tb_i6 (List.mem_of_getElem? (i := 45) rfl) rfl) tb_y3,
  mm_mr1 tb_k89 (tb_i6 (List.mem_of_getElem? (i := 50) rfl) rfl) (tb_i6 (List.mem_of_getElem? (i := 51) rfl) rfl) (tb_i6 (List.mem_of_getElem? (i := 52) rfl) rfl) tb_y6 ⟨_, _, rfl⟩,
  mm_mr1 tb_k87 (tb_i2 (List.mem_of_getElem? (i := 171) rfl) rfl) (tb_i2 (List.mem_of_getElem? (i := 173) rfl) rfl) (tb_p1 (List.mem_of_getElem? (i := 0) rfl) rfl) tb_y5 ⟨_, _, rfl⟩,
  mm_mr1 tb_k95 (tb_i3 (List.mem_of_getElem? (i := 4) rfl) rfl) (tb_i3 (List.mem_of_getElem? (i := 5) rfl) rfl) (tb_i3 (List.mem_of_getElem? (i := 6) rfl) rfl) tb_y28 ⟨_, _, rfl⟩,
  mm_mr1 tb_k110 (tb_i4 (List.mem_of_getElem? (i := 126) rfl) rfl) (tb_i4 (List.mem_of_getElem? (i := 127) rfl) rfl) (tb_i4 (List.mem_of_getElem? (i := 128) rfl) rfl) tb_y40 ⟨_, _, rfl⟩,
  mm_mr1 tb_k111 (tb_i5 (List.mem_of_getElem? (i := 214) rfl) rfl) (tb_i5 (List.mem_of_getElem? (i := 215) rfl) rfl) (tb_i5 (List.mem_of_getElem? (i := 216) rfl) rfl) tb_y0 ⟨_, _, rfl⟩,
  mm_mr1 tb_k114 (tb_i5 (List.mem_of_getElem? (i := 218) rfl) rfl) (tb_i5 (List.mem_of_getElem? (i := 219) rfl) rfl) (tb_i5 (List.mem_of_getElem? (i := 220) rfl) rfl) tb_y41 ⟨_, _, rfl⟩,
  mm_mr1 tb_k112 (tb_i6 (List.mem_of_getElem? (i := 78) rfl) rfl) (tb_i6 (List.mem_of_getElem? (i := 79) rfl) rfl) (tb_i6 (List.mem_of_getElem? (i := 80) rfl) rfl) tb_y4 ⟨_, _, rfl⟩,
  mm_mr1 tb_k86 (tb_i6 (List.mem_of_getElem? (i := 106) rfl) rfl) (tb_i6 (List.mem_of_getElem? (i := 108) rfl) rfl) (tb_p6 (List.mem_of_getElem? (i := 3) rfl) rfl) tb_y8 ⟨_, _, rfl⟩,
  mm_mr0 tb_k81 (tb_i6 (List.mem_of_getElem? (i := 122) rfl) rfl) (tb_i6 (List.mem_of_getElem? (i := 123) rfl) rfl) tb_y7,
  mm_mr0 tb_k82 (tb_i6 (List.mem_of_getElem? (i := 125) rfl) rfl) (tb_i6 (List.mem_of_getElem? (i := 126) rfl) rfl) tb_y7,
  mm_mr1 tb_k116 (tb_i6 (List.mem_of_getElem? (i := 131) rfl) rfl) (tb_i6 (List.mem_of_getElem? (i := 132) rfl) rfl) (tb_i6 (List.mem_of_getElem? (i := 133) rfl) rfl) tb_y11 ⟨_, _, rfl⟩,
  mm_mr1 tb_k117 (tb_i6 (List.mem_of_getElem? (i := 144) rfl) rfl) (tb_i6 (List.mem_of_getElem? (i := 145) rfl) rfl) (tb_i6 (List.mem_of_getElem? (i := 146) rfl) rfl) tb_y11 ⟨_, _, rfl⟩,
  mm_mr1 tb_k119 (tb_i6 (List.mem_of_getElem? (i := 155) rfl) rfl) (tb_i6 (List.mem_of_getElem? (i := 156) rfl) rfl) (tb_i6 (List.mem_of_getElem? (i := 157) rfl) rfl) tb_y13 ⟨_, _, rfl⟩,
  mm_mr1 tb_k122 (tb_i6 (List.mem_of_getElem? (i := 164) rfl) rfl) (tb_i6 (List.mem_of_getElem? (i := 165) rfl) rfl) (tb_i6 (List.mem_of_getElem? (i := 166) rfl) rfl) tb_y15 ⟨_, _, rfl⟩,
  mm_mr1 tb_k120 (tb_i6 (List.mem_of_getElem? (i := 177) rfl) rfl) (tb_i6 (List.mem_of_getElem? (i := 178) rfl) rfl) (tb_i6 (List.mem_of_getElem? (i := 179) rfl) rfl) tb_y4 ⟨_, _, rfl⟩,
  mm_mr1 tb_k121 (tb_i6 (List.mem_of_getElem? (i := 181) rfl) rfl) (tb_i6 (List.mem_of_getElem? (i := 182) rfl) rfl) (tb_i6 (List.mem_of_getElem? (i := 183) rfl) rfl) tb_y10 ⟨_, _, rfl⟩,
  mm_mr1 tb_k123 (tb_i6 (List.mem_of_getElem? (i := 193) rfl) rfl) (tb_i6 (List.mem_of_getElem? (i := 194) rfl) rfl) (tb_i6 (List.mem_of_getElem? (i := 195) rfl) rfl) tb_y10 ⟨_, _, rfl⟩,
  mm_mr1 tb_k125 (tb_i7 (List.mem_of_getElem? (i := 95) rfl) rfl) (tb_i7 (List.mem_of_getElem? (i := 96) rfl) rfl) (tb_i7 (List.mem_of_getElem? (i := 97) rfl) rfl) tb_y4 ⟨_, _, rfl⟩,
  mm_mr1 tb_k127 (tb_i6 (List.mem_of_getElem? (i := 16) rfl) rfl) (tb_i6 (List.mem_of_getElem? (i := 17) rfl) rfl) (tb_i6 (List.mem_of_getElem? (i := 18) rfl) rfl) tb_y4 ⟨_, _, rfl⟩,
  mm_mr1 tb_k126 (tb_i6 (List.mem_of_getElem? (i := 28) rfl) rfl) (tb_i6 (List.mem_of_getElem? (i := 29) rfl) rfl) (tb_i6 (List.mem_of_getElem? (i := 30) rfl) rfl) tb_y4 ⟨_, _, rfl⟩,
  mm_mr0 tb_k83 (tb_i7 (List.mem_of_getElem? (i := 106) rfl) rfl) (tb_i7 (List.mem_of_getElem? (i := 107) rfl) rfl) tb_y18,
  mm_mr1 tb_k104 (tb_i7 (List.mem_of_getElem? (i := 115) rfl) rfl) (tb_i7 (List.mem_of_getElem? (i := 116) rfl) rfl) (tb_i7 (List.mem_of_getElem? (i := 117) rfl) rfl) tb_y17 ⟨_, _, rfl⟩,
  mm_mr1 tb_k107 (tb_i7 (List.mem_of_getElem? (i := 119) rfl) rfl) (tb_i5 (List.mem_of_getElem? (i := 35) rfl) rfl) (tb_i5 (List.mem_of_getElem? (i := 36) rfl) rfl) tb_y27 ⟨_, _, rfl⟩,
  mm_mr1 tb_k108 (tb_i7 (List.mem_of_getElem? (i := 127) rfl) rfl) (tb_i7 (List.mem_of_getElem? (i := 128) rfl) rfl) (tb_i7 (List.mem_of_getElem? (i := 129) rfl) rfl) tb_y26 ⟨_, _, rfl⟩,
  mm_mr0 tb_k84 (tb_i7 (List.mem_of_getElem? (i := 109) rfl) rfl) (tb_i7 (List.mem_of_getElem? (i := 110) rfl) rfl) tb_y12,
  mm_mr0 tb_k131 (tb_i2 (List.mem_of_getElem? (i := 175) rfl) rfl) (tb_i2 (List.mem_of_getElem? (i := 176) rfl) rfl) tb_y9,
  mm_mr0 tb_k130 (tb_i2 (List.mem_of_getElem? (i := 178) rfl) rfl) (tb_i1 (List.mem_of_getElem? (i := 139) rfl) rfl) tb_y9,
  mm_mr2 tb_k128 (tb_i2 (List.mem_of_getElem? (i := 180) rfl) rfl) (tb_i2 (List.mem_of_getElem? (i := 181) rfl) rfl) rfl rfl (tb_i2 (List.mem_of_getElem? (i := 182) rfl) rfl) tb_y1,
  trivial⟩
set_option maxRecDepth 20000 in
theorem tb_ml_1 : mm_allL (fun q => (fun (o i : Nat) (v : Nat × Nat × Nat) => mm_mR tb_P tb_TB tb_cl tb_cn tb_ky tb_kb tb_hs o i v) 1 q.1 q.2) ((tb_ML[1]?).getD []) := ⟨mm_mr3 ⟨(tb_i1 (List.mem_of_getElem? (i := 40) rfl) rfl), (tb_i1 (List.mem_of_getElem? (i := 33) rfl) rfl), (tb_i1 (List.mem_of_getElem? (i := 34) rfl) rfl)⟩,
  mm_mr1 tb_k93 (tb_i3 (List.mem_of_getElem? (i := 33) rfl) rfl) (tb_i3 (List.mem_of_getElem? (i := 35) rfl) rfl) (tb_p1 (List.mem_of_getElem? (i := 3) rfl) rfl) tb_y15 ⟨_, _, rfl⟩,
  mm_mr1 tb_k91 (tb_i3 (List.mem_of_getElem? (i := 131) rfl) rfl) (tb_i3 (List.mem_of_getElem? (i := 132) rfl) rfl) (tb_i3 (List.mem_of_getElem? (i := 133) rfl) rfl) tb_y1 ⟨_, _, rfl⟩,
  trivial⟩
set_option maxRecDepth 20000 in
theorem tb_ml_2 : mm_allL (fun q => (fun (o i : Nat) (v : Nat × Nat × Nat) => mm_mR tb_P tb_TB tb_cl tb_cn tb_ky tb_kb tb_hs o i v) 2 q.1 q.2) ((tb_ML[2]?).getD []) := ⟨mm_mr3 ⟨(tb_i1 (List.mem_of_getElem? (i := 83) rfl) rfl), (tb_i1 (List.mem_of_getElem? (i := 33) rfl) rfl), (tb_i1 (List.mem_of_getElem? (i := 34) rfl) rfl)⟩,
  mm_mr1 tb_k129 (tb_i3 (List.mem_of_getElem? (i := 9) rfl) rfl) (tb_i3 (List.mem_of_getElem? (i := 10) rfl) rfl) (tb_i3 (List.mem_of_getElem? (i := 11) rfl) rfl) tb_y1 ⟨_, _, rfl⟩,
  mm_mr1 tb_k90 (tb_i3 (List.mem_of_getElem? (i := 13) rfl) rfl) (tb_i3 (List.mem_of_getElem? (i := 14) rfl) rfl) (tb_i3 (List.mem_of_getElem? (i := 15) rfl) rfl) tb_y1 ⟨_, _, rfl⟩,
  mm_mr1 tb_k96 (tb_i3 (List.mem_of_getElem? (i := 135) rfl) rfl) (tb_i3 (List.mem_of_getElem? (i := 137) rfl) rfl) (tb_p1 (List.mem_of_getElem? (i := 6) rfl) rfl) tb_y6 ⟨_, _, rfl⟩,
  mm_mr1 tb_k97 (tb_i3 (List.mem_of_getElem? (i := 143) rfl) rfl) (tb_i3 (List.mem_of_getElem? (i := 145) rfl) rfl) (tb_p1 (List.mem_of_getElem? (i := 7) rfl) rfl) tb_y1 ⟨_, _, rfl⟩,
  mm_mr1 tb_k91 (tb_i3 (List.mem_of_getElem? (i := 213) rfl) rfl) (tb_i3 (List.mem_of_getElem? (i := 132) rfl) rfl) (tb_i3 (List.mem_of_getElem? (i := 133) rfl) rfl) tb_y1 ⟨_, _, rfl⟩,
  mm_mr1 tb_k92 (tb_i3 (List.mem_of_getElem? (i := 139) rfl) rfl) (tb_i3 (List.mem_of_getElem? (i := 140) rfl) rfl) (tb_i3 (List.mem_of_getElem? (i := 141) rfl) rfl) tb_y8 ⟨_, _, rfl⟩,
  trivial⟩
set_option maxRecDepth 20000 in
theorem tb_ml_3 : mm_allL (fun q => (fun (o i : Nat) (v : Nat × Nat × Nat) => mm_mR tb_P tb_TB tb_cl tb_cn tb_ky tb_kb tb_hs o i v) 3 q.1 q.2) ((tb_ML[3]?).getD []) := ⟨mm_mr3 ⟨(tb_i1 (List.mem_of_getElem? (i := 114) rfl) rfl), (tb_i1 (List.mem_of_getElem? (i := 33) rfl) rfl), (tb_i1 (List.mem_of_getElem? (i := 34) rfl) rfl)⟩,
  mm_mr0 tb_k131 (tb_i5 (List.mem_of_getElem? (i := 97) rfl) rfl) (tb_i2 (List.mem_of_getElem? (i := 176) rfl) rfl) tb_y9,
  mm_mr0 tb_k130 (tb_i5 (List.mem_of_getElem? (i := 98) rfl) rfl) (tb_i1 (List.mem_of_getElem? (i := 139) rfl) rfl) tb_y9,
  mm_mr4 ⟨(tb_i5 (List.mem_of_getElem? (i := 99) rfl) rfl), (tb_i5 (List.mem_of_getElem? (i := 14) rfl) rfl), (tb_i5 (List.mem_of_getElem? (i := 13) rfl) rfl), (tb_i1 (List.mem_of_getElem? (i := 25) rfl) rfl)⟩,
  mm_mr1 tb_k101 (tb_i5 (List.mem_of_getElem? (i := 100) rfl) rfl) (tb_i5 (List.mem_of_getElem? (i := 102) rfl) rfl) (tb_p4 (List.mem_of_getElem? (i := 7) rfl) rfl) tb_y1 ⟨_, _, rfl⟩,
  mm_mr1 tb_k100 (tb_i5 (List.mem_of_getElem? (i := 115) rfl) rfl) (tb_i5 (List.mem_of_getElem? (i := 117) rfl) rfl) (tb_p4 (List.mem_of_getElem? (i := 8) rfl) rfl) tb_y6 ⟨_, _, rfl⟩,
  mm_mr0 tb_k132 (tb_i5 (List.mem_of_getElem? (i := 104) rfl) rfl) (tb_i5 (List.mem_of_getElem? (i := 105) rfl) rfl) tb_y22,
  mm_mr0 tb_k133 (tb_i5 (List.mem_of_getElem? (i := 107) rfl) rfl) (tb_i5 (List.mem_of_getElem? (i := 108) rfl) rfl) tb_y24,
  mm_mr0 tb_k134 (tb_i5 (List.mem_of_getElem? (i := 112) rfl) rfl) (tb_i5 (List.mem_of_getElem? (i := 113) rfl) rfl) tb_y24,
  trivial⟩
set_option maxRecDepth 20000 in
theorem tb_ml_4 : mm_allL (fun q => (fun (o i : Nat) (v : Nat × Nat × Nat) => mm_mR tb_P tb_TB tb_cl tb_cn tb_ky tb_kb tb_hs o i v) 4 q.1 q.2) ((tb_ML[4]?).getD []) := ⟨mm_mr3 ⟨(tb_i1 (List.mem_of_getElem? (i := 147) rfl) rfl), (tb_i1 (List.mem_of_getElem? (i := 33) rfl) rfl), (tb_i1 (List.mem_of_getElem? (i := 34) rfl) rfl)⟩,
  mm_mr0 tb_k135 (tb_i4 (List.mem_of_getElem? (i := 209) rfl) rfl) (tb_i4 (List.mem_of_getElem? (i := 210) rfl) rfl) tb_y39,
  mm_mr1 tb_k103 (tb_i4 (List.mem_of_getElem? (i := 205) rfl) rfl) (tb_i4 (List.mem_of_getElem? (i := 206) rfl) rfl) (tb_i4 (List.mem_of_getElem? (i := 207) rfl) rfl) tb_y23 ⟨_, _, rfl⟩,
  trivial⟩
set_option maxRecDepth 20000 in
theorem tb_ml_5 : mm_allL (fun q => (fun (o i : Nat) (v : Nat × Nat × Nat) => mm_mR tb_P tb_TB tb_cl tb_cn tb_ky tb_kb tb_hs o i v) 5 q.1 q.2) ((tb_ML[5]?).getD []) := ⟨mm_mr3 ⟨(tb_i1 (List.mem_of_getElem? (i := 108) rfl) rfl), (tb_i1 (List.mem_of_getElem? (i := 33) rfl) rfl), (tb_i1 (List.mem_of_getElem? (i := 34) rfl) rfl)⟩,
  mm_mr2 tb_k98 (tb_i1 (List.mem_of_getElem? (i := 111) rfl) rfl) (tb_i1 (List.mem_of_getElem? (i := 112) rfl) rfl) rfl rfl (tb_i1 (List.mem_of_getElem? (i := 113) rfl) rfl) tb_y1,
  mm_mr0 tb_k130 (tb_i1 (List.mem_of_getElem? (i := 138) rfl) rfl) (tb_i1 (List.mem_of_getElem? (i := 139) rfl) rfl) tb_y9,
  mm_mr2 tb_k102 (tb_i1 (List.mem_of_getElem? (i := 144) rfl) rfl) (tb_i1 (List.mem_of_getElem? (i := 145) rfl) rfl) rfl rfl (tb_i1 (List.mem_of_getElem? (i := 146) rfl) rfl) tb_y1,
  mm_mr4 ⟨(tb_i5 (List.mem_of_getElem? (i := 38) rfl) rfl), (tb_i5 (List.mem_of_getElem? (i := 14) rfl) rfl), (tb_i5 (List.mem_of_getElem? (i := 13) rfl) rfl), (tb_i1 (List.mem_of_getElem? (i := 25) rfl) rfl)⟩,
  mm_mr1 tb_k99 (tb_i5 (List.mem_of_getElem? (i := 93) rfl) rfl) (tb_i5 (List.mem_of_getElem? (i := 94) rfl) rfl) (tb_i5 (List.mem_of_getElem? (i := 95) rfl) rfl) tb_y38 ⟨_, _, rfl⟩,
  trivial⟩
set_option maxRecDepth 20000 in
theorem tb_ml_6 : mm_allL (fun q => (fun (o i : Nat) (v : Nat × Nat × Nat) => mm_mR tb_P tb_TB tb_cl tb_cn tb_ky tb_kb tb_hs o i v) 6 q.1 q.2) ((tb_ML[6]?).getD []) := ⟨mm_mr3 ⟨(tb_i1 (List.mem_of_getElem? (i := 102) rfl) rfl), (tb_i1 (List.mem_of_getElem? (i := 33) rfl) rfl), (tb_i1 (List.mem_of_getElem? (i := 34) rfl) rfl)⟩,
  mm_mr2 tb_k105 (tb_i1 (List.mem_of_getElem? (i := 105) rfl) rfl) (tb_i1 (List.mem_of_getElem? (i := 106) rfl) rfl) rfl rfl (tb_i1 (List.mem_of_getElem? (i := 107) rfl) rfl) tb_y11,
  mm_mr0 tb_k130 (tb_i4 (List.mem_of_getElem? (i := 131) rfl) rfl) (tb_i1 (List.mem_of_getElem? (i := 139) rfl) rfl) tb_y9,
  mm_mr0 tb_k131 (tb_i4 (List.mem_of_getElem? (i := 132) rfl) rfl) (tb_i2 (List.mem_of_getElem? (i := 176) rfl) rfl) tb_y9,
  mm_mr1 tb_k106 (tb_i4 (List.mem_of_getElem? (i := 133) rfl) rfl) (tb_i4 (List.mem_of_getElem? (i := 134) rfl) rfl) (tb_i4 (List.mem_of_getElem? (i := 135) rfl) rfl) tb_y1 ⟨_, _, rfl⟩,
  trivial⟩
set_option maxRecDepth 20000 in
theorem tb_ml_7 : mm_allL (fun q => (fun (o i : Nat) (v : Nat × Nat × Nat) => mm_mR tb_P tb_TB tb_cl tb_cn tb_ky tb_kb tb_hs o i v) 7 q.1 q.2) ((tb_ML[7]?).getD []) := ⟨mm_mr3 ⟨(tb_i2 (List.mem_of_getElem? (i := 26) rfl) rfl), (tb_i1 (List.mem_of_getElem? (i := 33) rfl) rfl), (tb_i1 (List.mem_of_getElem? (i := 34) rfl) rfl)⟩,
  trivial⟩
set_option maxRecDepth 20000 in
theorem tb_ml_8 : mm_allL (fun q => (fun (o i : Nat) (v : Nat × Nat × Nat) => mm_mR tb_P tb_TB tb_cl tb_cn tb_ky tb_kb tb_hs o i v) 8 q.1 q.2) ((tb_ML[8]?).getD []) := ⟨mm_mr3 ⟨(tb_i2 (List.mem_of_getElem? (i := 59) rfl) rfl), (tb_i1 (List.mem_of_getElem? (i := 33) rfl) rfl), (tb_i1 (List.mem_of_getElem? (i := 34) rfl) rfl)⟩,
  mm_mr5 tb_k81 ⟨_, (tb_i6 (List.mem_of_getElem? (i := 135) rfl) rfl)⟩ (tb_i6 (List.mem_of_getElem? (i := 123) rfl) rfl) tb_y7,
  mm_mr1 tb_k118 (tb_i6 (List.mem_of_getElem? (i := 159) rfl) rfl) (tb_i6 (List.mem_of_getElem? (i := 160) rfl) rfl) (tb_i6 (List.mem_of_getElem? (i := 161) rfl) rfl) tb_y8 ⟨_, _, rfl⟩,
  mm_mr1 tb_k119 (tb_i6 (List.mem_of_getElem? (i := 168) rfl) rfl) (tb_i6 (List.mem_of_getElem? (i := 156) rfl) rfl) (tb_i6 (List.mem_of_getElem? (i := 157) rfl) rfl) tb_y13 ⟨_, _, rfl⟩,
  trivial⟩
set_option maxRecDepth 20000 in
theorem tb_ml_9 : mm_allL (fun q => (fun (o i : Nat) (v : Nat × Nat × Nat) => mm_mR tb_P tb_TB tb_cl tb_cn tb_ky tb_kb tb_hs o i v) 9 q.1 q.2) ((tb_ML[9]?).getD []) := ⟨mm_mr3 ⟨(tb_i2 (List.mem_of_getElem? (i := 78) rfl) rfl), (tb_i1 (List.mem_of_getElem? (i := 33) rfl) rfl), (tb_i1 (List.mem_of_getElem? (i := 34) rfl) rfl)⟩,
  trivial⟩
set_option maxRecDepth 20000 in
theorem tb_ml_10 : mm_allL (fun q => (fun (o i : Nat) (v : Nat × Nat × Nat) => mm_mR tb_P tb_TB tb_cl tb_cn tb_ky tb_kb tb_hs o i v) 10 q.1 q.2) ((tb_ML[10]?).getD []) := ⟨mm_mr3 ⟨(tb_i2 (List.mem_of_getElem? (i := 183) rfl) rfl), (tb_i1 (List.mem_of_getElem? (i := 33) rfl) rfl), (tb_i1 (List.mem_of_getElem? (i := 34) rfl) rfl)⟩,
  trivial⟩
set_option maxRecDepth 20000 in
theorem tb_ml_11 : mm_allL (fun q => (fun (o i : Nat) (v : Nat × Nat × Nat) => mm_mR tb_P tb_TB tb_cl tb_cn tb_ky tb_kb tb_hs o i v) 11 q.1 q.2) ((tb_ML[11]?).getD []) := trivial
set_option maxRecDepth 20000 in
theorem tb_ml_12 : mm_allL (fun q => (fun (o i : Nat) (v : Nat × Nat × Nat) => mm_mR tb_P tb_TB tb_cl tb_cn tb_ky tb_kb tb_hs o i v) 12 q.1 q.2) ((tb_ML[12]?).getD []) := ⟨mm_mr3 ⟨(tb_i7 (List.mem_of_getElem? (i := 136) rfl) rfl), (tb_i1 (List.mem_of_getElem? (i := 33) rfl) rfl), (tb_i1 (List.mem_of_getElem? (i := 34) rfl) rfl)⟩,
  mm_mr1 tb_k18 (tb_i9 (List.mem_of_getElem? (i := 101) rfl) rfl) (tb_i9 (List.mem_of_getElem? (i := 103) rfl) rfl) (tb_p7 (List.mem_of_getElem? (i := 11) rfl) rfl) tb_y11 ⟨_, _, rfl⟩,
  mm_mr1 tb_k16 (tb_i9 (List.mem_of_getElem? (i := 105) rfl) rfl) (tb_i9 (List.mem_of_getElem? (i := 107) rfl) rfl) (tb_p7 (List.mem_of_getElem? (i := 12) rfl) rfl) tb_y8 ⟨_, _, rfl⟩,
  mm_mr1 tb_k23 (tb_i9 (List.mem_of_getElem? (i := 163) rfl) rfl) (tb_i9 (List.mem_of_getElem? (i := 165) rfl) rfl) (tb_p8 (List.mem_of_getElem? (i := 5) rfl) rfl) tb_y8 ⟨_, _, rfl⟩,
  mm_mr1 tb_k22 (tb_i9 (List.mem_of_getElem? (i := 146) rfl) rfl) (tb_i9 (List.mem_of_getElem? (i := 148) rfl) rfl) (tb_p8 (List.mem_of_getElem? (i := 2) rfl) rfl) tb_y1 ⟨_, _, rfl⟩,
  mm_mr1 tb_k24 (tb_i9 (List.mem_of_getElem? (i := 142) rfl) rfl) (tb_i9 (List.mem_of_getElem? (i := 144) rfl) rfl) (tb_p8 (List.mem_of_getElem? (i := 1) rfl) rfl) tb_y8 ⟨_, _, rfl⟩,
  mm_mr1 tb_k25 (tb_i9 (List.mem_of_getElem? (i := 154) rfl) rfl) (tb_i9 (List.mem_of_getElem? (i := 156) rfl) rfl) (tb_p8 (List.mem_of_getElem? (i := 4) rfl) rfl) tb_y2 ⟨_, _, rfl⟩,
  mm_mr1 tb_k28 (tb_i9 (List.mem_of_getElem? (i := 150) rfl) rfl) (tb_i9 (List.mem_of_getElem? (i := 152) rfl) rfl) (tb_p8 (List.mem_of_getElem? (i := 3) rfl) rfl) tb_y0 ⟨_, _, rfl⟩,
  mm_mr1 tb_k26 (tb_i9 (List.mem_of_getElem? (i := 199) rfl) rfl) (tb_i9 (List.mem_of_getElem? (i := 201) rfl) rfl) (tb_p8 (List.mem_of_getElem? (i := 14) rfl) rfl) tb_y6 ⟨_, _, rfl⟩,
  mm_mr1 tb_k21 (tb_i9 (List.mem_of_getElem? (i := 121) rfl) rfl) (tb_i9 (List.mem_of_getElem? (i := 123) rfl) rfl) (tb_p7 (List.mem_of_getElem? (i := 14) rfl) rfl) tb_y1 ⟨_, _, rfl⟩,
  mm_mr1 tb_k27 (tb_i9 (List.mem_of_getElem? (i := 138) rfl) rfl) (tb_i9 (List.mem_of_getElem? (i := 140) rfl) rfl) (tb_p8 (List.mem_of_getElem? (i := 0) rfl) rfl) tb_y6 ⟨_, _, rfl⟩,
  mm_mr1 tb_k29 (tb_i9 (List.mem_of_getElem? (i := 117) rfl) rfl) (tb_i9 (List.mem_of_getElem? (i := 119) rfl) rfl) (tb_p7 (List.mem_of_getElem? (i := 13) rfl) rfl) tb_y8 ⟨_, _, rfl⟩,
  mm_mr1 tb_k32 (tb_i10 (List.mem_of_getElem? (i := 23) rfl) rfl) (tb_i10 (List.mem_of_getElem? (i := 25) rfl) rfl) (tb_p9 (List.mem_of_getElem? (i := 14) rfl) rfl) tb_y1 ⟨_, _, rfl⟩,
  mm_mr1 tb_k59 (tb_i10 (List.mem_of_getElem? (i := 88) rfl) rfl) (tb_i10 (List.mem_of_getElem? (i := 90) rfl) rfl) (tb_p10 (List.mem_of_getElem? (i := 10) rfl) rfl) tb_y36 ⟨_, _, rfl⟩,
  mm_mr0 tb_k55 (tb_i10 (List.mem_of_getElem? (i := 96) rfl) rfl) (tb_i10 (List.mem_of_getElem? (i := 97) rfl) rfl) tb_y24,
  mm_mr0 tb_k133 (tb_i10 (List.mem_of_getElem? (i := 99) rfl) rfl) (tb_i5 (List.mem_of_getElem? (i := 108) rfl) rfl) tb_y24,
  mm_mr0 tb_k134 (tb_i10 (List.mem_of_getElem? (i := 102) rfl) rfl) (tb_i5 (List.mem_of_getElem? (i := 113) rfl) rfl) tb_y24,
  mm_mr1 tb_k56 (tb_i10 (List.mem_of_getElem? (i := 92) rfl) rfl) (tb_i10 (List.mem_of_getElem? (i := 94) rfl) rfl) (tb_p10 (List.mem_of_getElem? (i := 11) rfl) rfl) tb_y2 ⟨_, _, rfl⟩,
  mm_mr1 tb_k58 (tb_i10 (List.mem_of_getElem? (i := 103) rfl) rfl) (tb_i10 (List.mem_of_getElem? (i := 105) rfl) rfl) (tb_p10 (List.mem_of_getElem? (i := 12) rfl) rfl) tb_y1 ⟨_, _, rfl⟩,
  mm_mr1 tb_k57 (tb_i10 (List.mem_of_getElem? (i := 107) rfl) rfl) (tb_i10 (List.mem_of_getElem? (i := 109) rfl) rfl) (tb_p10 (List.mem_of_getElem? (i := 13) rfl) rfl) tb_y8 ⟨_, _, rfl⟩,
  mm_mr0 tb_k17 (tb_i11 (List.mem_of_getElem? (i := 51) rfl) rfl) (tb_i11 (List.mem_of_getElem? (i := 52) rfl) rfl) tb_y25,
  mm_mr1 tb_k38 (tb_i11 (List.mem_of_getElem? (i := 62) rfl) rfl) (tb_i11 (List.mem_of_getElem? (i := 64) rfl) rfl) (tb_p13 (List.mem_of_getElem? (i := 8) rfl) rfl) tb_y8 ⟨_, _, rfl⟩,
  mm_mr0 tb_k40 (tb_i11 (List.mem_of_getElem? (i := 74) rfl) rfl) (tb_i11 (List.mem_of_getElem? (i := 75) rfl) rfl) tb_y7,
  mm_mr0 tb_k39 (tb_i11 (List.mem_of_getElem? (i := 77) rfl) rfl) (tb_i11 (List.mem_of_getElem? (i := 78) rfl) rfl) tb_y7,
  mm_mr1 tb_k43 (tb_i11 (List.mem_of_getElem? (i := 89) rfl) rfl) (tb_i11 (List.mem_of_getElem? (i := 91) rfl) rfl) (tb_p13 (List.mem_of_getElem? (i := 10) rfl) rfl) tb_y13 ⟨_, _, rfl⟩,
  mm_mr0 tb_k131 (tb_i11 (List.mem_of_getElem? (i := 165) rfl) rfl) (tb_i2 (List.mem_of_getElem? (i := 176) rfl) rfl) tb_y9,
  mm_mr0 tb_k50 (tb_i11 (List.mem_of_getElem? (i := 170) rfl) rfl) (tb_i11 (List.mem_of_getElem? (i := 171) rfl) rfl) tb_y18,
  mm_mr0 tb_k51 (tb_i11 (List.mem_of_getElem? (i := 175) rfl) rfl) (tb_i11 (List.mem_of_getElem? (i := 176) rfl) rfl) tb_y37,
  trivial⟩
set_option maxRecDepth 20000 in
theorem tb_ml_13 : mm_allL (fun q => (fun (o i : Nat) (v : Nat × Nat × Nat) => mm_mR tb_P tb_TB tb_cl tb_cn tb_ky tb_kb tb_hs o i v) 13 q.1 q.2) ((tb_ML[13]?).getD []) := trivial
set_option maxRecDepth 20000 in
theorem tb_ml_14 : mm_allL (fun q => (fun (o i : Nat) (v : Nat × Nat × Nat) => mm_mR tb_P tb_TB tb_cl tb_cn tb_ky tb_kb tb_hs o i v) 14 q.1 q.2) ((tb_ML[14]?).getD []) := trivial
set_option maxRecDepth 20000 in
theorem tb_ml_15 : mm_allL (fun q => (fun (o i : Nat) (v : Nat × Nat × Nat) => mm_mR tb_P tb_TB tb_cl tb_cn tb_ky tb_kb tb_hs o i v) 15 q.1 q.2) ((tb_ML[15]?).getD []) := ⟨mm_mr1 tb_k61 (tb_i6 (List.mem_of_getElem? (i := 40) rfl) rfl) (tb_i6 (List.mem_of_getElem? (i := 41) rfl) rfl) (tb_i6 (List.mem_of_getElem? (i := 42) rfl) rfl) tb_y20 ⟨_, _, rfl⟩,
  mm_mr1 tb_k67 (tb_i6 (List.mem_of_getElem? (i := 58) rfl) rfl) (tb_i6 (List.mem_of_getElem? (i := 59) rfl) rfl) (tb_i6 (List.mem_of_getElem? (i := 60) rfl) rfl) tb_y4 ⟨_, _, rfl⟩,
  mm_mr1 tb_k68 (tb_i6 (List.mem_of_getElem? (i := 85) rfl) rfl) (tb_i6 (List.mem_of_getElem? (i := 86) rfl) rfl) (tb_i6 (List.mem_of_getElem? (i := 87) rfl) rfl) tb_y10 ⟨_, _, rfl⟩,
  mm_mr1 tb_k69 (tb_i6 (List.mem_of_getElem? (i := 101) rfl) rfl) (tb_i6 (List.mem_of_getElem? (i := 102) rfl) rfl) (tb_i6 (List.mem_of_getElem? (i := 103) rfl) rfl) tb_y14 ⟨_, _, rfl⟩,
  mm_mr1 tb_k70 (tb_i6 (List.mem_of_getElem? (i := 118) rfl) rfl) (tb_i6 (List.mem_of_getElem? (i := 119) rfl) rfl) (tb_i6 (List.mem_of_getElem? (i := 120) rfl) rfl) tb_y11 ⟨_, _, rfl⟩,
  mm_mr1 tb_k71 (tb_i6 (List.mem_of_getElem? (i := 139) rfl) rfl) (tb_i6 (List.mem_of_getElem? (i := 140) rfl) rfl) (tb_i6 (List.mem_of_getElem? (i := 141) rfl) rfl) tb_y11 ⟨_, _, rfl⟩,
  mm_mr1 tb_k72 (tb_i6 (List.mem_of_getElem? (i := 151) rfl) rfl) (tb_i6 (List.mem_of_getElem? (i := 152) rfl) rfl) (tb_i6 (List.mem_of_getElem? (i := 153) rfl) rfl) tb_y15 ⟨_, _, rfl⟩,
  mm_mr1 tb_k73 (tb_i6 (List.mem_of_getElem? (i := 172) rfl) rfl) (tb_i6 (List.mem_of_getElem? (i := 173) rfl) rfl) (tb_i6 (List.mem_of_getElem? (i := 174) rfl) rfl) tb_y10 ⟨_, _, rfl⟩,
  mm_mr1 tb_k74 (tb_i6 (List.mem_of_getElem? (i := 188) rfl) rfl) (tb_i6 (List.mem_of_getElem? (i := 189) rfl) rfl) (tb_i6 (List.mem_of_getElem? (i := 190) rfl) rfl) tb_y10 ⟨_, _, rfl⟩,
  mm_mr1 tb_k75 (tb_i6 (List.mem_of_getElem? (i := 200) rfl) rfl) (tb_i6 (List.mem_of_getElem? (i := 201) rfl) rfl) (tb_i6 (List.mem_of_getElem? (i := 202) rfl) rfl) tb_y14 ⟨_, _, rfl⟩,
  mm_mr1 tb_k76 (tb_i7 (List.mem_of_getElem? (i := 90) rfl) rfl) (tb_i7 (List.mem_of_getElem? (i := 91) rfl) rfl) (tb_i7 (List.mem_of_getElem? (i := 92) rfl) rfl) tb_y4 ⟨_, _, rfl⟩,
  mm_mr1 tb_k78 (tb_i7 (List.mem_of_getElem? (i := 102) rfl) rfl) (tb_i7 (List.mem_of_getElem? (i := 103) rfl) rfl) (tb_i7 (List.mem_of_getElem? (i := 104) rfl) rfl) tb_y16 ⟨_, _, rfl⟩,
  mm_mr1 tb_k79 (tb_i7 (List.mem_of_getElem? (i := 123) rfl) rfl) (tb_i7 (List.mem_of_getElem? (i := 124) rfl) rfl) (tb_i7 (List.mem_of_getElem? (i := 125) rfl) rfl) tb_y19 ⟨_, _, rfl⟩,
  mm_mr2 tb_k60 (tb_i1 (List.mem_of_getElem? (i := 29) rfl) rfl) (tb_i1 (List.mem_of_getElem? (i := 30) rfl) rfl) rfl rfl (tb_i1 (List.mem_of_getElem? (i := 31) rfl) rfl) tb_y1,
  mm_mr2 tb_k14 (tb_i7 (List.mem_of_getElem? (i := 133) rfl) rfl) (tb_i7 (List.mem_of_getElem? (i := 134) rfl) rfl) rfl rfl (tb_i7 (List.mem_of_getElem? (i := 135) rfl) rfl) tb_y1,
  mm_mr0 tb_k1 (tb_i6 (List.mem_of_getElem? (i := 36) rfl) rfl) (tb_i6 (List.mem_of_getElem? (i := 37) rfl) rfl) tb_y31,
  mm_mr1 tb_k19 (tb_i9 (List.mem_of_getElem? (i := 97) rfl) rfl) (tb_i9 (List.mem_of_getElem? (i := 98) rfl) rfl) (tb_i9 (List.mem_of_getElem? (i := 99) rfl) rfl) tb_y20 ⟨_, _, rfl⟩,
  mm_mr1 tb_k15 (tb_i9 (List.mem_of_getElem? (i := 93) rfl) rfl) (tb_i9 (List.mem_of_getElem? (i := 94) rfl) rfl) (tb_i9 (List.mem_of_getElem? (i := 95) rfl) rfl) tb_y0 ⟨_, _, rfl⟩,
  mm_mr1 tb_k62 (tb_i2 (List.mem_of_getElem? (i := 163) rfl) rfl) (tb_i2 (List.mem_of_getElem? (i := 164) rfl) rfl) (tb_i2 (List.mem_of_getElem? (i := 165) rfl) rfl) tb_y0 ⟨_, _, rfl⟩,
  mm_mr1 tb_k20 (tb_i9 (List.mem_of_getElem? (i := 109) rfl) rfl) (tb_i9 (List.mem_of_getElem? (i := 110) rfl) rfl) (tb_i9 (List.mem_of_getElem? (i := 111) rfl) rfl) tb_y0 ⟨_, _, rfl⟩,
  mm_mr1 tb_k63 (tb_i2 (List.mem_of_getElem? (i := 167) rfl) rfl) (tb_i2 (List.mem_of_getElem? (i := 168) rfl) rfl) (tb_i2 (List.mem_of_getElem? (i := 169) rfl) rfl) tb_y0 ⟨_, _, rfl⟩,
  mm_mr1 tb_k30 (tb_i9 (List.mem_of_getElem? (i := 113) rfl) rfl) (tb_i9 (List.mem_of_getElem? (i := 114) rfl) rfl) (tb_i9 (List.mem_of_getElem? (i := 115) rfl) rfl) tb_y0 ⟨_, _, rfl⟩,
  mm_mr1 tb_k64 (tb_i4 (List.mem_of_getElem? (i := 118) rfl) rfl) (tb_i4 (List.mem_of_getElem? (i := 119) rfl) rfl) (tb_i4 (List.mem_of_getElem? (i := 120) rfl) rfl) tb_y0 ⟨_, _, rfl⟩,
  mm_mr1 tb_k31 (tb_i10 (List.mem_of_getElem? (i := 27) rfl) rfl) (tb_i10 (List.mem_of_getElem? (i := 28) rfl) rfl) (tb_i10 (List.mem_of_getElem? (i := 29) rfl) rfl) tb_y0 ⟨_, _, rfl⟩,
  mm_mr1 tb_k65 (tb_i4 (List.mem_of_getElem? (i := 122) rfl) rfl) (tb_i4 (List.mem_of_getElem? (i := 123) rfl) rfl) (tb_i4 (List.mem_of_getElem? (i := 124) rfl) rfl) tb_y0 ⟨_, _, rfl⟩,
  mm_mr1 tb_k34 (tb_i10 (List.mem_of_getElem? (i := 35) rfl) rfl) (tb_i10 (List.mem_of_getElem? (i := 36) rfl) rfl) (tb_i10 (List.mem_of_getElem? (i := 37) rfl) rfl) tb_y0 ⟨_, _, rfl⟩,
  mm_mr1 tb_k66 (tb_i6 (List.mem_of_getElem? (i := 8) rfl) rfl) (tb_i6 (List.mem_of_getElem? (i := 9) rfl) rfl) (tb_i6 (List.mem_of_getElem? (i := 10) rfl) rfl) tb_y0 ⟨_, _, rfl⟩,
  mm_mr1 tb_k33 (tb_i10 (List.mem_of_getElem? (i := 31) rfl) rfl) (tb_i10 (List.mem_of_getElem? (i := 32) rfl) rfl) (tb_i10 (List.mem_of_getElem? (i := 33) rfl) rfl) tb_y0 ⟨_, _, rfl⟩,
  mm_mr0 tb_k2 (tb_i6 (List.mem_of_getElem? (i := 54) rfl) rfl) (tb_i6 (List.mem_of_getElem? (i := 55) rfl) rfl) tb_y35,
  mm_mr1 tb_k35 (tb_i11 (List.mem_of_getElem? (i := 46) rfl) rfl) (tb_i11 (List.mem_of_getElem? (i := 47) rfl) rfl) (tb_i11 (List.mem_of_getElem? (i := 48) rfl) rfl) tb_y4 ⟨_, _, rfl⟩,
  mm_mr0 tb_k3 (tb_i6 (List.mem_of_getElem? (i := 82) rfl) rfl) (tb_i6 (List.mem_of_getElem? (i := 83) rfl) rfl) tb_y34,
  mm_mr1 tb_k36 (tb_i11 (List.mem_of_getElem? (i := 54) rfl) rfl) (tb_i11 (List.mem_of_getElem? (i := 55) rfl) rfl) (tb_i11 (List.mem_of_getElem? (i := 56) rfl) rfl) tb_y10 ⟨_, _, rfl⟩,
  mm_mr0 tb_k4 (tb_i6 (List.mem_of_getElem? (i := 98) rfl) rfl) (tb_i6 (List.mem_of_getElem? (i := 99) rfl) rfl) tb_y33,
  mm_mr1 tb_k37 (tb_i11 (List.mem_of_getElem? (i := 58) rfl) rfl) (tb_i11 (List.mem_of_getElem? (i := 59) rfl) rfl) (tb_i11 (List.mem_of_getElem? (i := 60) rfl) rfl) tb_y14 ⟨_, _, rfl⟩,
  mm_mr0 tb_k5 (tb_i6 (List.mem_of_getElem? (i := 115) rfl) rfl) (tb_i6 (List.mem_of_getElem? (i := 116) rfl) rfl) tb_y29,
  mm_mr1 tb_k41 (tb_i11 (List.mem_of_getElem? (i := 70) rfl) rfl) (tb_i11 (List.mem_of_getElem? (i := 71) rfl) rfl) (tb_i11 (List.mem_of_getElem? (i := 72) rfl) rfl) tb_y11 ⟨_, _, rfl⟩,
  mm_mr0 tb_k6 (tb_i6 (List.mem_of_getElem? (i := 136) rfl) rfl) (tb_i6 (List.mem_of_getElem? (i := 137) rfl) rfl) tb_y29,
  mm_mr1 tb_k42 (tb_i11 (List.mem_of_getElem? (i := 80) rfl) rfl) (tb_i11 (List.mem_of_getElem? (i := 81) rfl) rfl) (tb_i11 (List.mem_of_getElem? (i := 82) rfl) rfl) tb_y11 ⟨_, _, rfl⟩,
  mm_mr0 tb_k7 (tb_i6 (List.mem_of_getElem? (i := 148) rfl) rfl) (tb_i6 (List.mem_of_getElem? (i := 149) rfl) rfl) tb_y30,
  mm_mr1 tb_k44 (tb_i11 (List.mem_of_getElem? (i := 85) rfl) rfl) (tb_i11 (List.mem_of_getElem? (i := 86) rfl) rfl) (tb_i11 (List.mem_of_getElem? (i := 87) rfl) rfl) tb_y15 ⟨_, _, rfl⟩,
  mm_mr0 tb_k8 (tb_i6 (List.mem_of_getElem? (i := 169) rfl) rfl) (tb_i6 (List.mem_of_getElem? (i := 170) rfl) rfl) tb_y34,
  mm_mr1 tb_k45 (tb_i11 (List.mem_of_getElem? (i := 93) rfl) rfl) (tb_i11 (List.mem_of_getElem? (i := 94) rfl) rfl) (tb_i11 (List.mem_of_getElem? (i := 95) rfl) rfl) tb_y10 ⟨_, _, rfl⟩,
  mm_mr0 tb_k9 (tb_i6 (List.mem_of_getElem? (i := 185) rfl) rfl) (tb_i6 (List.mem_of_getElem? (i := 186) rfl) rfl) tb_y34,
  mm_mr1 tb_k46 (tb_i11 (List.mem_of_getElem? (i := 97) rfl) rfl) (tb_i11 (List.mem_of_getElem? (i := 98) rfl) rfl) (tb_i11 (List.mem_of_getElem? (i := 99) rfl) rfl) tb_y10 ⟨_, _, rfl⟩,
  mm_mr0 tb_k10 (tb_i6 (List.mem_of_getElem? (i := 197) rfl) rfl) (tb_i6 (List.mem_of_getElem? (i := 198) rfl) rfl) tb_y33,
  mm_mr1 tb_k47 (tb_i11 (List.mem_of_getElem? (i := 102) rfl) rfl) (tb_i11 (List.mem_of_getElem? (i := 103) rfl) rfl) (tb_i11 (List.mem_of_getElem? (i := 104) rfl) rfl) tb_y14 ⟨_, _, rfl⟩,
  mm_mr0 tb_k11 (tb_i7 (List.mem_of_getElem? (i := 87) rfl) rfl) (tb_i7 (List.mem_of_getElem? (i := 88) rfl) rfl) tb_y35,
  mm_mr1 tb_k48 (tb_i11 (List.mem_of_getElem? (i := 156) rfl) rfl) (tb_i11 (List.mem_of_getElem? (i := 157) rfl) rfl) (tb_i11 (List.mem_of_getElem? (i := 158) rfl) rfl) tb_y4 ⟨_, _, rfl⟩,
  mm_mr1 tb_k77 (tb_i6 (List.mem_of_getElem? (i := 12) rfl) rfl) (tb_i6 (List.mem_of_getElem? (i := 13) rfl) rfl) (tb_i6 (List.mem_of_getElem? (i := 14) rfl) rfl) tb_y21 ⟨_, _, rfl⟩,
  mm_mr1 tb_k49 (tb_i11 (List.mem_of_getElem? (i := 161) rfl) rfl) (tb_i11 (List.mem_of_getElem? (i := 162) rfl) rfl) (tb_i11 (List.mem_of_getElem? (i := 163) rfl) rfl) tb_y21 ⟨_, _, rfl⟩,
  mm_mr0 tb_k12 (tb_i7 (List.mem_of_getElem? (i := 99) rfl) rfl) (tb_i7 (List.mem_of_getElem? (i := 100) rfl) rfl) tb_y32,
  mm_mr1 tb_k52 (tb_i11 (List.mem_of_getElem? (i := 166) rfl) rfl) (tb_i11 (List.mem_of_getElem? (i := 167) rfl) rfl) (tb_i11 (List.mem_of_getElem? (i := 168) rfl) rfl) tb_y16 ⟨_, _, rfl⟩,
  mm_mr0 tb_k13 (tb_i7 (List.mem_of_getElem? (i := 120) rfl) rfl) (tb_i7 (List.mem_of_getElem? (i := 121) rfl) rfl) tb_y32,
  mm_mr1 tb_k53 (tb_i11 (List.mem_of_getElem? (i := 178) rfl) rfl) (tb_i11 (List.mem_of_getElem? (i := 179) rfl) rfl) (tb_i11 (List.mem_of_getElem? (i := 180) rfl) rfl) tb_y19 ⟨_, _, rfl⟩,
  mm_mr1 tb_k80 (tb_i6 (List.mem_of_getElem? (i := 32) rfl) rfl) (tb_i6 (List.mem_of_getElem? (i := 33) rfl) rfl) (tb_i6 (List.mem_of_getElem? (i := 34) rfl) rfl) tb_y0 ⟨_, _, rfl⟩,
  mm_mr1 tb_k54 (tb_i11 (List.mem_of_getElem? (i := 182) rfl) rfl) (tb_i11 (List.mem_of_getElem? (i := 183) rfl) rfl) (tb_i11 (List.mem_of_getElem? (i := 184) rfl) rfl) tb_y0 ⟨_, _, rfl⟩,
  trivial⟩
set_option maxRecDepth 20000 in
theorem tb_ml_16 : mm_allL (fun q => (fun (o i : Nat) (v : Nat × Nat × Nat) => mm_mR tb_P tb_TB tb_cl tb_cn tb_ky tb_kb tb_hs o i v) 16 q.1 q.2) ((tb_ML[16]?).getD []) := trivial
set_option maxRecDepth 20000 in
theorem tb_ml_17 : mm_allL (fun q => (fun (o i : Nat) (v : Nat × Nat × Nat) => mm_mR tb_P tb_TB tb_cl tb_cn tb_ky tb_kb tb_hs o i v) 17 q.1 q.2) ((tb_ML[17]?).getD []) := trivial
set_option maxRecDepth 20000 in
theorem tb_ml_all : mm_all2P (fun (o i : Nat) (v : Nat × Nat × Nat) => mm_mR tb_P tb_TB tb_cl tb_cn tb_ky tb_kb tb_hs o i v) 0 tb_ML := ⟨tb_ml_0, tb_ml_1, tb_ml_2, tb_ml_3, tb_ml_4, tb_ml_5, tb_ml_6, tb_ml_7, tb_ml_8, tb_ml_9, tb_ml_10, tb_ml_11, tb_ml_12, tb_ml_13, tb_ml_14, tb_ml_15, tb_ml_16, tb_ml_17, trivial⟩
def tb_names2 : List String := ["java/lang/RuntimeException", "java/lang/Exception"]
set_option maxRecDepth 20000 in
theorem tb_x0 : mm_allL (fun w => w ∈ tb_TB ∨ w = .isRef (.static Bundle.tN "UNASSIGNED_STACK" Bundle.steD) ∨ w = .isRef (.static Bundle.tN "SUPPRESSED_SENTINEL" Bundle.listD)) (Bundle.ownAtoms "IndexedCompiler" 95 "java/lang/IllegalStateException" tb_names2) := ⟨Or.inl (tb_i1 (List.mem_of_getElem? (i := 13) rfl) rfl),
  Or.inl (tb_i3 (List.mem_of_getElem? (i := 168) rfl) rfl),
  Or.inl (tb_i3 (List.mem_of_getElem? (i := 177) rfl) rfl),
  Or.inl (tb_i3 (List.mem_of_getElem? (i := 180) rfl) rfl),
  Or.inl (tb_i3 (List.mem_of_getElem? (i := 183) rfl) rfl),
  Or.inl (tb_i3 (List.mem_of_getElem? (i := 185) rfl) rfl),
  Or.inl (tb_i3 (List.mem_of_getElem? (i := 169) rfl) rfl),
  Or.inl (tb_i3 (List.mem_of_getElem? (i := 170) rfl) rfl),
  Or.inl (tb_i1 (List.mem_of_getElem? (i := 33) rfl) rfl),
  Or.inl (tb_i1 (List.mem_of_getElem? (i := 34) rfl) rfl),
  Or.inl (tb_i3 (List.mem_of_getElem? (i := 171) rfl) rfl),
  Or.inl (tb_i3 (List.mem_of_getElem? (i := 176) rfl) rfl),
  Or.inl (tb_i3 (List.mem_of_getElem? (i := 181) rfl) rfl),
  Or.inl (tb_i3 (List.mem_of_getElem? (i := 201) rfl) rfl),
  Or.inl (tb_i3 (List.mem_of_getElem? (i := 158) rfl) rfl),
  Or.inl (tb_i3 (List.mem_of_getElem? (i := 202) rfl) rfl),
  Or.inl (tb_i3 (List.mem_of_getElem? (i := 160) rfl) rfl),
  Or.inl (tb_i3 (List.mem_of_getElem? (i := 203) rfl) rfl),
  Or.inl (tb_i3 (List.mem_of_getElem? (i := 162) rfl) rfl),
  Or.inl (tb_i3 (List.mem_of_getElem? (i := 172) rfl) rfl),
  Or.inl (tb_i3 (List.mem_of_getElem? (i := 173) rfl) rfl),
  Or.inl (tb_i3 (List.mem_of_getElem? (i := 174) rfl) rfl),
  Or.inl (tb_i3 (List.mem_of_getElem? (i := 175) rfl) rfl),
  Or.inl (tb_i3 (List.mem_of_getElem? (i := 164) rfl) rfl),
  Or.inl (tb_i3 (List.mem_of_getElem? (i := 197) rfl) rfl),
  Or.inl (tb_i3 (List.mem_of_getElem? (i := 198) rfl) rfl),
  Or.inl (tb_i3 (List.mem_of_getElem? (i := 200) rfl) rfl),
  Or.inl (tb_i3 (List.mem_of_getElem? (i := 164) rfl) rfl),
  Or.inl (tb_i3 (List.mem_of_getElem? (i := 188) rfl) rfl),
  Or.inl (tb_i3 (List.mem_of_getElem? (i := 189) rfl) rfl),
  Or.inl (tb_i3 (List.mem_of_getElem? (i := 190) rfl) rfl),
  Or.inl (tb_i3 (List.mem_of_getElem? (i := 191) rfl) rfl),
  Or.inl (tb_i3 (List.mem_of_getElem? (i := 150) rfl) rfl),
  Or.inl (tb_i3 (List.mem_of_getElem? (i := 191) rfl) rfl),
  Or.inl (tb_i3 (List.mem_of_getElem? (i := 192) rfl) rfl),
  Or.inl (tb_i3 (List.mem_of_getElem? (i := 193) rfl) rfl),
  Or.inl (tb_i3 (List.mem_of_getElem? (i := 194) rfl) rfl),
  Or.inl (tb_i3 (List.mem_of_getElem? (i := 152) rfl) rfl),
  Or.inl (tb_i3 (List.mem_of_getElem? (i := 194) rfl) rfl),
  Or.inl (tb_i3 (List.mem_of_getElem? (i := 195) rfl) rfl),
  Or.inl (tb_i3 (List.mem_of_getElem? (i := 196) rfl) rfl),
  Or.inl (tb_i3 (List.mem_of_getElem? (i := 197) rfl) rfl),
  Or.inl (tb_i3 (List.mem_of_getElem? (i := 154) rfl) rfl),
  Or.inl (tb_i6 (List.mem_of_getElem? (i := 49) rfl) rfl),
  Or.inl (tb_i3 (List.mem_of_getElem? (i := 147) rfl) rfl),
  Or.inl (tb_i3 (List.mem_of_getElem? (i := 148) rfl) rfl),
  Or.inl (tb_i3 (List.mem_of_getElem? (i := 155) rfl) rfl),
  Or.inl (tb_i3 (List.mem_of_getElem? (i := 156) rfl) rfl),
  Or.inl (tb_i3 (List.mem_of_getElem? (i := 157) rfl) rfl),
  Or.inl (tb_i3 (List.mem_of_getElem? (i := 159) rfl) rfl),
  Or.inl (tb_i3 (List.mem_of_getElem? (i := 161) rfl) rfl),
  Or.inl (tb_i3 (List.mem_of_getElem? (i := 163) rfl) rfl),
  Or.inr (Or.inl rfl),
  Or.inr (Or.inr rfl),
  Or.inl (tb_i3 (List.mem_of_getElem? (i := 167) rfl) rfl),
  Or.inl (tb_i3 (List.mem_of_getElem? (i := 166) rfl) rfl),
  Or.inl (tb_i3 (List.mem_of_getElem? (i := 165) rfl) rfl), trivial⟩
set_option maxRecDepth 20000 in
theorem tb_x1 : mm_allL (fun w => w ∈ tb_TB ∨ w = .isRef (.static Bundle.tN "UNASSIGNED_STACK" Bundle.steD) ∨ w = .isRef (.static Bundle.tN "SUPPRESSED_SENTINEL" Bundle.listD)) (Bundle.ownAtoms "IndexedCompiler" 133 "java/lang/IllegalArgumentException" tb_names2) := ⟨Or.inl (tb_i1 (List.mem_of_getElem? (i := 13) rfl) rfl),
  Or.inl (tb_i3 (List.mem_of_getElem? (i := 168) rfl) rfl),
  Or.inl (tb_i3 (List.mem_of_getElem? (i := 177) rfl) rfl),
  Or.inl (tb_i3 (List.mem_of_getElem? (i := 180) rfl) rfl),
  Or.inl (tb_i3 (List.mem_of_getElem? (i := 183) rfl) rfl),
  Or.inl (tb_i3 (List.mem_of_getElem? (i := 185) rfl) rfl),
  Or.inl (tb_i3 (List.mem_of_getElem? (i := 169) rfl) rfl),
  Or.inl (tb_i3 (List.mem_of_getElem? (i := 170) rfl) rfl),
  Or.inl (tb_i1 (List.mem_of_getElem? (i := 33) rfl) rfl),
  Or.inl (tb_i1 (List.mem_of_getElem? (i := 34) rfl) rfl),
  Or.inl (tb_i3 (List.mem_of_getElem? (i := 171) rfl) rfl),
  Or.inl (tb_i3 (List.mem_of_getElem? (i := 176) rfl) rfl),
  Or.inl (tb_i3 (List.mem_of_getElem? (i := 181) rfl) rfl),
  Or.inl (tb_i3 (List.mem_of_getElem? (i := 201) rfl) rfl),
  Or.inl (tb_i3 (List.mem_of_getElem? (i := 158) rfl) rfl),
  Or.inl (tb_i3 (List.mem_of_getElem? (i := 202) rfl) rfl),
  Or.inl (tb_i3 (List.mem_of_getElem? (i := 160) rfl) rfl),
  Or.inl (tb_i3 (List.mem_of_getElem? (i := 203) rfl) rfl),
  Or.inl (tb_i3 (List.mem_of_getElem? (i := 162) rfl) rfl),
  Or.inl (tb_i3 (List.mem_of_getElem? (i := 172) rfl) rfl),
  Or.inl (tb_i3 (List.mem_of_getElem? (i := 173) rfl) rfl),
  Or.inl (tb_i3 (List.mem_of_getElem? (i := 174) rfl) rfl),
  Or.inl (tb_i3 (List.mem_of_getElem? (i := 175) rfl) rfl),
  Or.inl (tb_i3 (List.mem_of_getElem? (i := 164) rfl) rfl),
  Or.inl (tb_i3 (List.mem_of_getElem? (i := 197) rfl) rfl),
  Or.inl (tb_i3 (List.mem_of_getElem? (i := 198) rfl) rfl),
  Or.inl (tb_i3 (List.mem_of_getElem? (i := 200) rfl) rfl),
  Or.inl (tb_i3 (List.mem_of_getElem? (i := 164) rfl) rfl),
  Or.inl (tb_i6 (List.mem_of_getElem? (i := 73) rfl) rfl),
  Or.inl (tb_i6 (List.mem_of_getElem? (i := 74) rfl) rfl),
  Or.inl (tb_i6 (List.mem_of_getElem? (i := 75) rfl) rfl),
  Or.inl (tb_i3 (List.mem_of_getElem? (i := 191) rfl) rfl),
  Or.inl (tb_i3 (List.mem_of_getElem? (i := 150) rfl) rfl),
  Or.inl (tb_i3 (List.mem_of_getElem? (i := 191) rfl) rfl),
  Or.inl (tb_i3 (List.mem_of_getElem? (i := 192) rfl) rfl),
  Or.inl (tb_i3 (List.mem_of_getElem? (i := 193) rfl) rfl),
  Or.inl (tb_i3 (List.mem_of_getElem? (i := 194) rfl) rfl),
  Or.inl (tb_i3 (List.mem_of_getElem? (i := 152) rfl) rfl),
  Or.inl (tb_i3 (List.mem_of_getElem? (i := 194) rfl) rfl),
  Or.inl (tb_i3 (List.mem_of_getElem? (i := 195) rfl) rfl),
  Or.inl (tb_i3 (List.mem_of_getElem? (i := 196) rfl) rfl),
  Or.inl (tb_i3 (List.mem_of_getElem? (i := 197) rfl) rfl),
  Or.inl (tb_i3 (List.mem_of_getElem? (i := 154) rfl) rfl),
  Or.inl (tb_i6 (List.mem_of_getElem? (i := 72) rfl) rfl),
  Or.inl (tb_i6 (List.mem_of_getElem? (i := 63) rfl) rfl),
  Or.inl (tb_i6 (List.mem_of_getElem? (i := 64) rfl) rfl),
  Or.inl (tb_i6 (List.mem_of_getElem? (i := 65) rfl) rfl),
  Or.inl (tb_i3 (List.mem_of_getElem? (i := 179) rfl) rfl),
  Or.inl (tb_i6 (List.mem_of_getElem? (i := 66) rfl) rfl),
  Or.inl (tb_i6 (List.mem_of_getElem? (i := 67) rfl) rfl),
  Or.inl (tb_i6 (List.mem_of_getElem? (i := 68) rfl) rfl),
  Or.inl (tb_i6 (List.mem_of_getElem? (i := 69) rfl) rfl),
  Or.inr (Or.inl rfl),
  Or.inr (Or.inr rfl),
  Or.inl (tb_i3 (List.mem_of_getElem? (i := 167) rfl) rfl),
  Or.inl (tb_i3 (List.mem_of_getElem? (i := 166) rfl) rfl),
  Or.inl (tb_i6 (List.mem_of_getElem? (i := 70) rfl) rfl), trivial⟩
set_option maxRecDepth 20000 in
theorem tb_x2 : mm_allL (fun w => w ∈ tb_TB ∨ w = .isRef (.static Bundle.tN "UNASSIGNED_STACK" Bundle.steD) ∨ w = .isRef (.static Bundle.tN "SUPPRESSED_SENTINEL" Bundle.listD)) (Bundle.ownAtoms "IndexedCompiler$Reader" 188 "java/lang/IllegalStateException" tb_names2) := ⟨Or.inl (tb_i1 (List.mem_of_getElem? (i := 13) rfl) rfl),
  Or.inl (tb_i3 (List.mem_of_getElem? (i := 168) rfl) rfl),
  Or.inl (tb_i3 (List.mem_of_getElem? (i := 177) rfl) rfl),
  Or.inl (tb_i3 (List.mem_of_getElem? (i := 180) rfl) rfl),
  Or.inl (tb_i3 (List.mem_of_getElem? (i := 183) rfl) rfl),
  Or.inl (tb_i3 (List.mem_of_getElem? (i := 185) rfl) rfl),
  Or.inl (tb_i3 (List.mem_of_getElem? (i := 169) rfl) rfl),
  Or.inl (tb_i3 (List.mem_of_getElem? (i := 170) rfl) rfl),
  Or.inl (tb_i1 (List.mem_of_getElem? (i := 33) rfl) rfl),
  Or.inl (tb_i1 (List.mem_of_getElem? (i := 34) rfl) rfl),
  Or.inl (tb_i3 (List.mem_of_getElem? (i := 171) rfl) rfl),
  Or.inl (tb_i3 (List.mem_of_getElem? (i := 176) rfl) rfl),
  Or.inl (tb_i3 (List.mem_of_getElem? (i := 181) rfl) rfl),
  Or.inl (tb_i3 (List.mem_of_getElem? (i := 201) rfl) rfl),
  Or.inl (tb_i3 (List.mem_of_getElem? (i := 158) rfl) rfl),
  Or.inl (tb_i3 (List.mem_of_getElem? (i := 202) rfl) rfl),
  Or.inl (tb_i3 (List.mem_of_getElem? (i := 160) rfl) rfl),
  Or.inl (tb_i3 (List.mem_of_getElem? (i := 203) rfl) rfl),
  Or.inl (tb_i3 (List.mem_of_getElem? (i := 162) rfl) rfl),
  Or.inl (tb_i3 (List.mem_of_getElem? (i := 172) rfl) rfl),
  Or.inl (tb_i3 (List.mem_of_getElem? (i := 173) rfl) rfl),
  Or.inl (tb_i3 (List.mem_of_getElem? (i := 174) rfl) rfl),
  Or.inl (tb_i3 (List.mem_of_getElem? (i := 175) rfl) rfl),
  Or.inl (tb_i3 (List.mem_of_getElem? (i := 164) rfl) rfl),
  Or.inl (tb_i3 (List.mem_of_getElem? (i := 197) rfl) rfl),
  Or.inl (tb_i3 (List.mem_of_getElem? (i := 198) rfl) rfl),
  Or.inl (tb_i3 (List.mem_of_getElem? (i := 200) rfl) rfl),
  Or.inl (tb_i3 (List.mem_of_getElem? (i := 164) rfl) rfl),
  Or.inl (tb_i3 (List.mem_of_getElem? (i := 188) rfl) rfl),
  Or.inl (tb_i3 (List.mem_of_getElem? (i := 189) rfl) rfl),
  Or.inl (tb_i3 (List.mem_of_getElem? (i := 190) rfl) rfl),
  Or.inl (tb_i3 (List.mem_of_getElem? (i := 191) rfl) rfl),
  Or.inl (tb_i3 (List.mem_of_getElem? (i := 150) rfl) rfl),
  Or.inl (tb_i3 (List.mem_of_getElem? (i := 191) rfl) rfl),
  Or.inl (tb_i3 (List.mem_of_getElem? (i := 192) rfl) rfl),
  Or.inl (tb_i3 (List.mem_of_getElem? (i := 193) rfl) rfl),
  Or.inl (tb_i3 (List.mem_of_getElem? (i := 194) rfl) rfl),
  Or.inl (tb_i3 (List.mem_of_getElem? (i := 152) rfl) rfl),
  Or.inl (tb_i3 (List.mem_of_getElem? (i := 194) rfl) rfl),
  Or.inl (tb_i3 (List.mem_of_getElem? (i := 195) rfl) rfl),
  Or.inl (tb_i3 (List.mem_of_getElem? (i := 196) rfl) rfl),
  Or.inl (tb_i3 (List.mem_of_getElem? (i := 197) rfl) rfl),
  Or.inl (tb_i3 (List.mem_of_getElem? (i := 154) rfl) rfl),
  Or.inl (tb_i3 (List.mem_of_getElem? (i := 187) rfl) rfl),
  Or.inl (tb_i3 (List.mem_of_getElem? (i := 147) rfl) rfl),
  Or.inl (tb_i3 (List.mem_of_getElem? (i := 148) rfl) rfl),
  Or.inl (tb_i3 (List.mem_of_getElem? (i := 155) rfl) rfl),
  Or.inl (tb_i3 (List.mem_of_getElem? (i := 156) rfl) rfl),
  Or.inl (tb_i3 (List.mem_of_getElem? (i := 157) rfl) rfl),
  Or.inl (tb_i3 (List.mem_of_getElem? (i := 159) rfl) rfl),
  Or.inl (tb_i3 (List.mem_of_getElem? (i := 161) rfl) rfl),
  Or.inl (tb_i3 (List.mem_of_getElem? (i := 163) rfl) rfl),
  Or.inr (Or.inl rfl),
  Or.inr (Or.inr rfl),
  Or.inl (tb_i3 (List.mem_of_getElem? (i := 167) rfl) rfl),
  Or.inl (tb_i3 (List.mem_of_getElem? (i := 166) rfl) rfl),
  Or.inl (tb_i3 (List.mem_of_getElem? (i := 165) rfl) rfl), trivial⟩
theorem tb_fit : Bundle.fit "java/lang/IllegalStateException" = true ∧ Bundle.fit "java/lang/IllegalArgumentException" = true ∧ ∀ n ∈ tb_names2, Bundle.fit n = true := ⟨by decide +kernel, by decide +kernel, by decide +kernel⟩
set_option maxRecDepth 20000 in
theorem tb_xt_0 : mm_allL (fun q => mm_xR tb_P tb_TB tb_SB tb_cl tb_cn tb_kb tb_hs tb_X 0 q.1 q.2) ((tb_XT[0]?).getD []) := trivial
set_option maxRecDepth 20000 in
theorem tb_xt_1 : mm_allL (fun q => mm_xR tb_P tb_TB tb_SB tb_cl tb_cn tb_kb tb_hs tb_X 1 q.1 q.2) ((tb_XT[1]?).getD []) := trivial
set_option maxRecDepth 20000 in
theorem tb_xt_2 : mm_allL (fun q => mm_xR tb_P tb_TB tb_SB tb_cl tb_cn tb_kb tb_hs tb_X 2 q.1 q.2) ((tb_XT[2]?).getD []) := trivial
set_option maxRecDepth 20000 in
theorem tb_xt_3 : mm_allL (fun q => mm_xR tb_P tb_TB tb_SB tb_cl tb_cn tb_kb tb_hs tb_X 3 q.1 q.2) ((tb_XT[3]?).getD []) := trivial
set_option maxRecDepth 20000 in
theorem tb_xt_4 : mm_allL (fun q => mm_xR tb_P tb_TB tb_SB tb_cl tb_cn tb_kb tb_hs tb_X 4 q.1 q.2) ((tb_XT[4]?).getD []) := trivial
set_option maxRecDepth 20000 in
theorem tb_xt_5 : mm_allL (fun q => mm_xR tb_P tb_TB tb_SB tb_cl tb_cn tb_kb tb_hs tb_X 5 q.1 q.2) ((tb_XT[5]?).getD []) := trivial
set_option maxRecDepth 20000 in
theorem tb_xt_6 : mm_allL (fun q => mm_xR tb_P tb_TB tb_SB tb_cl tb_cn tb_kb tb_hs tb_X 6 q.1 q.2) ((tb_XT[6]?).getD []) := trivial
set_option maxRecDepth 20000 in
theorem tb_xt_7 : mm_allL (fun q => mm_xR tb_P tb_TB tb_SB tb_cl tb_cn tb_kb tb_hs tb_X 7 q.1 q.2) ((tb_XT[7]?).getD []) := trivial
set_option maxRecDepth 20000 in
theorem tb_xt_8 : mm_allL (fun q => mm_xR tb_P tb_TB tb_SB tb_cl tb_cn tb_kb tb_hs tb_X 8 q.1 q.2) ((tb_XT[8]?).getD []) := trivial
set_option maxRecDepth 20000 in
theorem tb_xt_9 : mm_allL (fun q => mm_xR tb_P tb_TB tb_SB tb_cl tb_cn tb_kb tb_hs tb_X 9 q.1 q.2) ((tb_XT[9]?).getD []) := trivial
set_option maxRecDepth 20000 in
theorem tb_xt_10 : mm_allL (fun q => mm_xR tb_P tb_TB tb_SB tb_cl tb_cn tb_kb tb_hs tb_X 10 q.1 q.2) ((tb_XT[10]?).getD []) := trivial
set_option maxRecDepth 20000 in
theorem tb_xt_11 : mm_allL (fun q => mm_xR tb_P tb_TB tb_SB tb_cl tb_cn tb_kb tb_hs tb_X 11 q.1 q.2) ((tb_XT[11]?).getD []) := trivial
set_option maxRecDepth 20000 in
theorem tb_xt_12 : mm_allL (fun q => mm_xR tb_P tb_TB tb_SB tb_cl tb_cn tb_kb tb_hs tb_X 12 q.1 q.2) ((tb_XT[12]?).getD []) := trivial
set_option maxRecDepth 20000 in
theorem tb_xt_13 : mm_allL (fun q => mm_xR tb_P tb_TB tb_SB tb_cl tb_cn tb_kb tb_hs tb_X 13 q.1 q.2) ((tb_XT[13]?).getD []) := trivial
set_option maxRecDepth 20000 in
theorem tb_xt_14 : mm_allL (fun q => mm_xR tb_P tb_TB tb_SB tb_cl tb_cn tb_kb tb_hs tb_X 14 q.1 q.2) ((tb_XT[14]?).getD []) := trivial
set_option maxRecDepth 20000 in
theorem tb_xt_15 : mm_allL (fun q => mm_xR tb_P tb_TB tb_SB tb_cl tb_cn tb_kb tb_hs tb_X 15 q.1 q.2) ((tb_XT[15]?).getD []) := trivial
set_option maxRecDepth 20000 in
theorem tb_xt_16 : mm_allL (fun q => mm_xR tb_P tb_TB tb_SB tb_cl tb_cn tb_kb tb_hs tb_X 16 q.1 q.2) ((tb_XT[16]?).getD []) := trivial
set_option maxRecDepth 20000 in
theorem tb_xt_17 : mm_allL (fun q => mm_xR tb_P tb_TB tb_SB tb_cl tb_cn tb_kb tb_hs tb_X 17 q.1 q.2) ((tb_XT[17]?).getD []) := trivial
set_option maxRecDepth 20000 in
theorem tb_xt_18 : mm_allL (fun q => mm_xR tb_P tb_TB tb_SB tb_cl tb_cn tb_kb tb_hs tb_X 18 q.1 q.2) ((tb_XT[18]?).getD []) := trivial
set_option maxRecDepth 20000 in
theorem tb_xt_19 : mm_allL (fun q => mm_xR tb_P tb_TB tb_SB tb_cl tb_cn tb_kb tb_hs tb_X 19 q.1 q.2) ((tb_XT[19]?).getD []) := trivial
set_option maxRecDepth 20000 in
theorem tb_xt_20 : mm_allL (fun q => mm_xR tb_P tb_TB tb_SB tb_cl tb_cn tb_kb tb_hs tb_X 20 q.1 q.2) ((tb_XT[20]?).getD []) := trivial
set_option maxRecDepth 20000 in
theorem tb_xt_21 : mm_allL (fun q => mm_xR tb_P tb_TB tb_SB tb_cl tb_cn tb_kb tb_hs tb_X 21 q.1 q.2) ((tb_XT[21]?).getD []) := trivial
set_option maxRecDepth 20000 in
theorem tb_xt_22 : mm_allL (fun q => mm_xR tb_P tb_TB tb_SB tb_cl tb_cn tb_kb tb_hs tb_X 22 q.1 q.2) ((tb_XT[22]?).getD []) := trivial
set_option maxRecDepth 20000 in
theorem tb_xt_23 : mm_allL (fun q => mm_xR tb_P tb_TB tb_SB tb_cl tb_cn tb_kb tb_hs tb_X 23 q.1 q.2) ((tb_XT[23]?).getD []) := trivial
set_option maxRecDepth 20000 in
theorem tb_xt_24 : mm_allL (fun q => mm_xR tb_P tb_TB tb_SB tb_cl tb_cn tb_kb tb_hs tb_X 24 q.1 q.2) ((tb_XT[24]?).getD []) := trivial
set_option maxRecDepth 20000 in
theorem tb_xt_25 : mm_allL (fun q => mm_xR tb_P tb_TB tb_SB tb_cl tb_cn tb_kb tb_hs tb_X 25 q.1 q.2) ((tb_XT[25]?).getD []) := trivial
set_option maxRecDepth 20000 in
theorem tb_xt_26 : mm_allL (fun q => mm_xR tb_P tb_TB tb_SB tb_cl tb_cn tb_kb tb_hs tb_X 26 q.1 q.2) ((tb_XT[26]?).getD []) := trivial
set_option maxRecDepth 20000 in
theorem tb_xt_27 : mm_allL (fun q => mm_xR tb_P tb_TB tb_SB tb_cl tb_cn tb_kb tb_hs tb_X 27 q.1 q.2) ((tb_XT[27]?).getD []) := trivial
set_option maxRecDepth 20000 in
theorem tb_xt_28 : mm_allL (fun q => mm_xR tb_P tb_TB tb_SB tb_cl tb_cn tb_kb tb_hs tb_X 28 q.1 q.2) ((tb_XT[28]?).getD []) := trivial
set_option maxRecDepth 20000 in
theorem tb_xt_29 : mm_allL (fun q => mm_xR tb_P tb_TB tb_SB tb_cl tb_cn tb_kb tb_hs tb_X 29 q.1 q.2) ((tb_XT[29]?).getD []) := trivial
set_option maxRecDepth 20000 in
theorem tb_xt_30 : mm_allL (fun q => mm_xR tb_P tb_TB tb_SB tb_cl tb_cn tb_kb tb_hs tb_X 30 q.1 q.2) ((tb_XT[30]?).getD []) := trivial
set_option maxRecDepth 20000 in
theorem tb_xt_31 : mm_allL (fun q => mm_xR tb_P tb_TB tb_SB tb_cl tb_cn tb_kb tb_hs tb_X 31 q.1 q.2) ((tb_XT[31]?).getD []) := trivial
set_option maxRecDepth 20000 in
theorem tb_xt_32 : mm_allL (fun q => mm_xR tb_P tb_TB tb_SB tb_cl tb_cn tb_kb tb_hs tb_X 32 q.1 q.2) ((tb_XT[32]?).getD []) := trivial
set_option maxRecDepth 20000 in
theorem tb_xt_33 : mm_allL (fun q => mm_xR tb_P tb_TB tb_SB tb_cl tb_cn tb_kb tb_hs tb_X 33 q.1 q.2) ((tb_XT[33]?).getD []) := trivial
set_option maxRecDepth 20000 in
theorem tb_xt_34 : mm_allL (fun q => mm_xR tb_P tb_TB tb_SB tb_cl tb_cn tb_kb tb_hs tb_X 34 q.1 q.2) ((tb_XT[34]?).getD []) := trivial
set_option maxRecDepth 20000 in
theorem tb_xt_35 : mm_allL (fun q => mm_xR tb_P tb_TB tb_SB tb_cl tb_cn tb_kb tb_hs tb_X 35 q.1 q.2) ((tb_XT[35]?).getD []) := trivial
set_option maxRecDepth 20000 in
theorem tb_xt_36 : mm_allL (fun q => mm_xR tb_P tb_TB tb_SB tb_cl tb_cn tb_kb tb_hs tb_X 36 q.1 q.2) ((tb_XT[36]?).getD []) := trivial
set_option maxRecDepth 20000 in
theorem tb_xt_37 : mm_allL (fun q => mm_xR tb_P tb_TB tb_SB tb_cl tb_cn tb_kb tb_hs tb_X 37 q.1 q.2) ((tb_XT[37]?).getD []) := trivial
set_option maxRecDepth 20000 in
theorem tb_xt_38 : mm_allL (fun q => mm_xR tb_P tb_TB tb_SB tb_cl tb_cn tb_kb tb_hs tb_X 38 q.1 q.2) ((tb_XT[38]?).getD []) := trivial
set_option maxRecDepth 20000 in
theorem tb_xt_39 : mm_allL (fun q => mm_xR tb_P tb_TB tb_SB tb_cl tb_cn tb_kb tb_hs tb_X 39 q.1 q.2) ((tb_XT[39]?).getD []) := trivial
set_option maxRecDepth 20000 in
theorem tb_xt_40 : mm_allL (fun q => mm_xR tb_P tb_TB tb_SB tb_cl tb_cn tb_kb tb_hs tb_X 40 q.1 q.2) ((tb_XT[40]?).getD []) := trivial
set_option maxRecDepth 20000 in
theorem tb_xt_41 : mm_allL (fun q => mm_xR tb_P tb_TB tb_SB tb_cl tb_cn tb_kb tb_hs tb_X 41 q.1 q.2) ((tb_XT[41]?).getD []) := trivial
set_option maxRecDepth 20000 in
theorem tb_xt_42 : mm_allL (fun q => mm_xR tb_P tb_TB tb_SB tb_cl tb_cn tb_kb tb_hs tb_X 42 q.1 q.2) ((tb_XT[42]?).getD []) := trivial
set_option maxRecDepth 20000 in
theorem tb_xt_43 : mm_allL (fun q => mm_xR tb_P tb_TB tb_SB tb_cl tb_cn tb_kb tb_hs tb_X 43 q.1 q.2) ((tb_XT[43]?).getD []) := trivial
set_option maxRecDepth 20000 in
theorem tb_xt_44 : mm_allL (fun q => mm_xR tb_P tb_TB tb_SB tb_cl tb_cn tb_kb tb_hs tb_X 44 q.1 q.2) ((tb_XT[44]?).getD []) := trivial
set_option maxRecDepth 20000 in
theorem tb_xt_45 : mm_allL (fun q => mm_xR tb_P tb_TB tb_SB tb_cl tb_cn tb_kb tb_hs tb_X 45 q.1 q.2) ((tb_XT[45]?).getD []) := trivial
set_option maxRecDepth 20000 in
theorem tb_xt_46 : mm_allL (fun q => mm_xR tb_P tb_TB tb_SB tb_cl tb_cn tb_kb tb_hs tb_X 46 q.1 q.2) ((tb_XT[46]?).getD []) := trivial
set_option maxRecDepth 20000 in
theorem tb_xt_47 : mm_allL (fun q => mm_xR tb_P tb_TB tb_SB tb_cl tb_cn tb_kb tb_hs tb_X 47 q.1 q.2) ((tb_XT[47]?).getD []) := trivial
set_option maxRecDepth 20000 in
theorem tb_xt_48 : mm_allL (fun q => mm_xR tb_P tb_TB tb_SB tb_cl tb_cn tb_kb tb_hs tb_X 48 q.1 q.2) ((tb_XT[48]?).getD []) := trivial
set_option maxRecDepth 20000 in
theorem tb_xt_49 : mm_allL (fun q => mm_xR tb_P tb_TB tb_SB tb_cl tb_cn tb_kb tb_hs tb_X 49 q.1 q.2) ((tb_XT[49]?).getD []) := trivial
set_option maxRecDepth 20000 in
theorem tb_xt_50 : mm_allL (fun q => mm_xR tb_P tb_TB tb_SB tb_cl tb_cn tb_kb tb_hs tb_X 50 q.1 q.2) ((tb_XT[50]?).getD []) := trivial
set_option maxRecDepth 20000 in
theorem tb_xt_51 : mm_allL (fun q => mm_xR tb_P tb_TB tb_SB tb_cl tb_cn tb_kb tb_hs tb_X 51 q.1 q.2) ((tb_XT[51]?).getD []) := trivial
set_option maxRecDepth 20000 in
theorem tb_xt_52 : mm_allL (fun q => mm_xR tb_P tb_TB tb_SB tb_cl tb_cn tb_kb tb_hs tb_X 52 q.1 q.2) ((tb_XT[52]?).getD []) := trivial
set_option maxRecDepth 20000 in
theorem tb_xt_53 : mm_allL (fun q => mm_xR tb_P tb_TB tb_SB tb_cl tb_cn tb_kb tb_hs tb_X 53 q.1 q.2) ((tb_XT[53]?).getD []) := trivial
set_option maxRecDepth 20000 in
theorem tb_xt_54 : mm_allL (fun q => mm_xR tb_P tb_TB tb_SB tb_cl tb_cn tb_kb tb_hs tb_X 54 q.1 q.2) ((tb_XT[54]?).getD []) := trivial
set_option maxRecDepth 20000 in
theorem tb_xt_55 : mm_allL (fun q => mm_xR tb_P tb_TB tb_SB tb_cl tb_cn tb_kb tb_hs tb_X 55 q.1 q.2) ((tb_XT[55]?).getD []) := trivial
set_option maxRecDepth 20000 in
theorem tb_xt_56 : mm_allL (fun q => mm_xR tb_P tb_TB tb_SB tb_cl tb_cn tb_kb tb_hs tb_X 56 q.1 q.2) ((tb_XT[56]?).getD []) := trivial
set_option maxRecDepth 20000 in
theorem tb_xt_57 : mm_allL (fun q => mm_xR tb_P tb_TB tb_SB tb_cl tb_cn tb_kb tb_hs tb_X 57 q.1 q.2) ((tb_XT[57]?).getD []) := trivial
set_option maxRecDepth 20000 in
theorem tb_xt_58 : mm_allL (fun q => mm_xR tb_P tb_TB tb_SB tb_cl tb_cn tb_kb tb_hs tb_X 58 q.1 q.2) ((tb_XT[58]?).getD []) := trivial
set_option maxRecDepth 20000 in
theorem tb_xt_59 : mm_allL (fun q => mm_xR tb_P tb_TB tb_SB tb_cl tb_cn tb_kb tb_hs tb_X 59 q.1 q.2) ((tb_XT[59]?).getD []) := trivial
set_option maxRecDepth 20000 in
theorem tb_xt_60 : mm_allL (fun q => mm_xR tb_P tb_TB tb_SB tb_cl tb_cn tb_kb tb_hs tb_X 60 q.1 q.2) ((tb_XT[60]?).getD []) := trivial
set_option maxRecDepth 20000 in
theorem tb_xt_61 : mm_allL (fun q => mm_xR tb_P tb_TB tb_SB tb_cl tb_cn tb_kb tb_hs tb_X 61 q.1 q.2) ((tb_XT[61]?).getD []) := ⟨⟨Or.inl rfl, by decide, "java/lang/IllegalStateException", tb_TX, 91, 93, 95, "the line would be too long", tb_names2, rfl, by decide +kernel, by decide +kernel, by decide +kernel, by decide +kernel, by decide +kernel, (tb_i6 (List.mem_of_getElem? (i := 47) rfl) rfl), (tb_i3 (List.mem_of_getElem? (i := 147) rfl) rfl), (tb_i1 (List.mem_of_getElem? (i := 16) rfl) rfl), List.mem_of_getElem? (i := 0) rfl, tb_fit.1, tb_fit.2.2, rfl, mm_allL_mem tb_x0⟩, trivial⟩
set_option maxRecDepth 20000 in
theorem tb_xt_62 : mm_allL (fun q => mm_xR tb_P tb_TB tb_SB tb_cl tb_cn tb_kb tb_hs tb_X 62 q.1 q.2) ((tb_XT[62]?).getD []) := trivial
set_option maxRecDepth 20000 in
theorem tb_xt_63 : mm_allL (fun q => mm_xR tb_P tb_TB tb_SB tb_cl tb_cn tb_kb tb_hs tb_X 63 q.1 q.2) ((tb_XT[63]?).getD []) := trivial
set_option maxRecDepth 20000 in
theorem tb_xt_64 : mm_allL (fun q => mm_xR tb_P tb_TB tb_SB tb_cl tb_cn tb_kb tb_hs tb_X 64 q.1 q.2) ((tb_XT[64]?).getD []) := trivial
set_option maxRecDepth 20000 in
theorem tb_xt_65 : mm_allL (fun q => mm_xR tb_P tb_TB tb_SB tb_cl tb_cn tb_kb tb_hs tb_X 65 q.1 q.2) ((tb_XT[65]?).getD []) := trivial
set_option maxRecDepth 20000 in
theorem tb_xt_66 : mm_allL (fun q => mm_xR tb_P tb_TB tb_SB tb_cl tb_cn tb_kb tb_hs tb_X 66 q.1 q.2) ((tb_XT[66]?).getD []) := trivial
set_option maxRecDepth 20000 in
theorem tb_xt_67 : mm_allL (fun q => mm_xR tb_P tb_TB tb_SB tb_cl tb_cn tb_kb tb_hs tb_X 67 q.1 q.2) ((tb_XT[67]?).getD []) := ⟨⟨Or.inr rfl, by decide, "java/lang/IllegalArgumentException", tb_TX, 129, 131, 133, "what is 0 to 5", tb_names2, rfl, by decide +kernel, by decide +kernel, by decide +kernel, by decide +kernel, by decide +kernel, (tb_i6 (List.mem_of_getElem? (i := 62) rfl) rfl), (tb_i6 (List.mem_of_getElem? (i := 63) rfl) rfl), (tb_i1 (List.mem_of_getElem? (i := 26) rfl) rfl), List.mem_of_getElem? (i := 1) rfl, tb_fit.2.1, tb_fit.2.2, rfl, mm_allL_mem tb_x1⟩, trivial⟩
set_option maxRecDepth 20000 in
theorem tb_xt_68 : mm_allL (fun q => mm_xR tb_P tb_TB tb_SB tb_cl tb_cn tb_kb tb_hs tb_X 68 q.1 q.2) ((tb_XT[68]?).getD []) := ⟨⟨Or.inr rfl, by decide, "java/lang/IllegalArgumentException", tb_TX, 129, 131, 133, "what is 0 to 5", tb_names2, rfl, by decide +kernel, by decide +kernel, by decide +kernel, by decide +kernel, by decide +kernel, (tb_i6 (List.mem_of_getElem? (i := 62) rfl) rfl), (tb_i6 (List.mem_of_getElem? (i := 63) rfl) rfl), (tb_i1 (List.mem_of_getElem? (i := 26) rfl) rfl), List.mem_of_getElem? (i := 1) rfl, tb_fit.2.1, tb_fit.2.2, rfl, mm_allL_mem tb_x1⟩,
  ⟨Or.inl rfl, by decide, "java/lang/IllegalStateException", tb_TX, 91, 137, 95, "no such goal", tb_names2, rfl, by decide +kernel, by decide +kernel, by decide +kernel, by decide +kernel, by decide +kernel, (tb_i6 (List.mem_of_getElem? (i := 47) rfl) rfl), (tb_i3 (List.mem_of_getElem? (i := 147) rfl) rfl), (tb_i1 (List.mem_of_getElem? (i := 16) rfl) rfl), List.mem_of_getElem? (i := 2) rfl, tb_fit.1, tb_fit.2.2, rfl, mm_allL_mem tb_x0⟩, trivial⟩
set_option maxRecDepth 20000 in
theorem tb_xt_69 : mm_allL (fun q => mm_xR tb_P tb_TB tb_SB tb_cl tb_cn tb_kb tb_hs tb_X 69 q.1 q.2) ((tb_XT[69]?).getD []) := ⟨⟨Or.inr rfl, by decide, "java/lang/IllegalArgumentException", tb_TX, 129, 143, 133, "how is 0 or 1, k not below 0", tb_names2, rfl, by decide +kernel, by decide +kernel, by decide +kernel, by decide +kernel, by decide +kernel, (tb_i6 (List.mem_of_getElem? (i := 62) rfl) rfl), (tb_i6 (List.mem_of_getElem? (i := 63) rfl) rfl), (tb_i1 (List.mem_of_getElem? (i := 26) rfl) rfl), List.mem_of_getElem? (i := 3) rfl, tb_fit.2.1, tb_fit.2.2, rfl, mm_allL_mem tb_x1⟩,
  ⟨Or.inl rfl, by decide, "java/lang/IllegalStateException", tb_TX, 91, 149, 95, "not accepted, or no such function", tb_names2, rfl, by decide +kernel, by decide +kernel, by decide +kernel, by decide +kernel, by decide +kernel, (tb_i6 (List.mem_of_getElem? (i := 47) rfl) rfl), (tb_i3 (List.mem_of_getElem? (i := 147) rfl) rfl), (tb_i1 (List.mem_of_getElem? (i := 16) rfl) rfl), List.mem_of_getElem? (i := 4) rfl, tb_fit.1, tb_fit.2.2, rfl, mm_allL_mem tb_x0⟩, trivial⟩
set_option maxRecDepth 20000 in
theorem tb_xt_70 : mm_allL (fun q => mm_xR tb_P tb_TB tb_SB tb_cl tb_cn tb_kb tb_hs tb_X 70 q.1 q.2) ((tb_XT[70]?).getD []) := ⟨⟨Or.inr rfl, by decide, "java/lang/IllegalArgumentException", tb_TX, 129, 161, 133, "no such slot, or no such number", tb_names2, rfl, by decide +kernel, by decide +kernel, by decide +kernel, by decide +kernel, by decide +kernel, (tb_i6 (List.mem_of_getElem? (i := 62) rfl) rfl), (tb_i6 (List.mem_of_getElem? (i := 63) rfl) rfl), (tb_i1 (List.mem_of_getElem? (i := 26) rfl) rfl), List.mem_of_getElem? (i := 5) rfl, tb_fit.2.1, tb_fit.2.2, rfl, mm_allL_mem tb_x1⟩, trivial⟩
set_option maxRecDepth 20000 in
theorem tb_xt_71 : mm_allL (fun q => mm_xR tb_P tb_TB tb_SB tb_cl tb_cn tb_kb tb_hs tb_X 71 q.1 q.2) ((tb_XT[71]?).getD []) := ⟨⟨Or.inr rfl, by decide, "java/lang/IllegalArgumentException", tb_TX, 129, 166, 133, "no such slot, or no such length", tb_names2, rfl, by decide +kernel, by decide +kernel, by decide +kernel, by decide +kernel, by decide +kernel, (tb_i6 (List.mem_of_getElem? (i := 62) rfl) rfl), (tb_i6 (List.mem_of_getElem? (i := 63) rfl) rfl), (tb_i1 (List.mem_of_getElem? (i := 26) rfl) rfl), List.mem_of_getElem? (i := 6) rfl, tb_fit.2.1, tb_fit.2.2, rfl, mm_allL_mem tb_x1⟩, trivial⟩
set_option maxRecDepth 20000 in
theorem tb_xt_72 : mm_allL (fun q => mm_xR tb_P tb_TB tb_SB tb_cl tb_cn tb_kb tb_hs tb_X 72 q.1 q.2) ((tb_XT[72]?).getD []) := ⟨⟨Or.inr rfl, by decide, "java/lang/IllegalArgumentException", tb_TX, 129, 161, 133, "no such slot, or no such number", tb_names2, rfl, by decide +kernel, by decide +kernel, by decide +kernel, by decide +kernel, by decide +kernel, (tb_i6 (List.mem_of_getElem? (i := 62) rfl) rfl), (tb_i6 (List.mem_of_getElem? (i := 63) rfl) rfl), (tb_i1 (List.mem_of_getElem? (i := 26) rfl) rfl), List.mem_of_getElem? (i := 5) rfl, tb_fit.2.1, tb_fit.2.2, rfl, mm_allL_mem tb_x1⟩,
  ⟨Or.inl rfl, by decide, "java/lang/IllegalStateException", tb_TX, 91, 175, 95, "no such number in the slot", tb_names2, rfl, by decide +kernel, by decide +kernel, by decide +kernel, by decide +kernel, by decide +kernel, (tb_i6 (List.mem_of_getElem? (i := 47) rfl) rfl), (tb_i3 (List.mem_of_getElem? (i := 147) rfl) rfl), (tb_i1 (List.mem_of_getElem? (i := 16) rfl) rfl), List.mem_of_getElem? (i := 7) rfl, tb_fit.1, tb_fit.2.2, rfl, mm_allL_mem tb_x0⟩, trivial⟩
set_option maxRecDepth 20000 in
theorem tb_xt_73 : mm_allL (fun q => mm_xR tb_P tb_TB tb_SB tb_cl tb_cn tb_kb tb_hs tb_X 73 q.1 q.2) ((tb_XT[73]?).getD []) := ⟨⟨Or.inr rfl, by decide, "java/lang/IllegalArgumentException", tb_TX, 129, 181, 133, "no such slot", tb_names2, rfl, by decide +kernel, by decide +kernel, by decide +kernel, by decide +kernel, by decide +kernel, (tb_i6 (List.mem_of_getElem? (i := 62) rfl) rfl), (tb_i6 (List.mem_of_getElem? (i := 63) rfl) rfl), (tb_i1 (List.mem_of_getElem? (i := 26) rfl) rfl), List.mem_of_getElem? (i := 8) rfl, tb_fit.2.1, tb_fit.2.2, rfl, mm_allL_mem tb_x1⟩,
  ⟨Or.inl rfl, by decide, "java/lang/IllegalStateException", tb_TX, 91, 175, 95, "no such number in the slot", tb_names2, rfl, by decide +kernel, by decide +kernel, by decide +kernel, by decide +kernel, by decide +kernel, (tb_i6 (List.mem_of_getElem? (i := 47) rfl) rfl), (tb_i3 (List.mem_of_getElem? (i := 147) rfl) rfl), (tb_i1 (List.mem_of_getElem? (i := 16) rfl) rfl), List.mem_of_getElem? (i := 7) rfl, tb_fit.1, tb_fit.2.2, rfl, mm_allL_mem tb_x0⟩, trivial⟩
set_option maxRecDepth 20000 in
theorem tb_xt_74 : mm_allL (fun q => mm_xR tb_P tb_TB tb_SB tb_cl tb_cn tb_kb tb_hs tb_X 74 q.1 q.2) ((tb_XT[74]?).getD []) := ⟨⟨Or.inr rfl, by decide, "java/lang/IllegalArgumentException", tb_TX, 129, 189, 133, "no such value, or no such number", tb_names2, rfl, by decide +kernel, by decide +kernel, by decide +kernel, by decide +kernel, by decide +kernel, (tb_i6 (List.mem_of_getElem? (i := 62) rfl) rfl), (tb_i6 (List.mem_of_getElem? (i := 63) rfl) rfl), (tb_i1 (List.mem_of_getElem? (i := 26) rfl) rfl), List.mem_of_getElem? (i := 9) rfl, tb_fit.2.1, tb_fit.2.2, rfl, mm_allL_mem tb_x1⟩, trivial⟩
set_option maxRecDepth 20000 in
theorem tb_xt_75 : mm_allL (fun q => mm_xR tb_P tb_TB tb_SB tb_cl tb_cn tb_kb tb_hs tb_X 75 q.1 q.2) ((tb_XT[75]?).getD []) := ⟨⟨Or.inr rfl, by decide, "java/lang/IllegalArgumentException", tb_TX, 129, 194, 133, "how is 0 or 1, steps 1 to 20000", tb_names2, rfl, by decide +kernel, by decide +kernel, by decide +kernel, by decide +kernel, by decide +kernel, (tb_i6 (List.mem_of_getElem? (i := 62) rfl) rfl), (tb_i6 (List.mem_of_getElem? (i := 63) rfl) rfl), (tb_i1 (List.mem_of_getElem? (i := 26) rfl) rfl), List.mem_of_getElem? (i := 10) rfl, tb_fit.2.1, tb_fit.2.2, rfl, mm_allL_mem tb_x1⟩,
  ⟨Or.inl rfl, by decide, "java/lang/IllegalStateException", tb_TX, 91, 149, 95, "not accepted, or no such function", tb_names2, rfl, by decide +kernel, by decide +kernel, by decide +kernel, by decide +kernel, by decide +kernel, (tb_i6 (List.mem_of_getElem? (i := 47) rfl) rfl), (tb_i3 (List.mem_of_getElem? (i := 147) rfl) rfl), (tb_i1 (List.mem_of_getElem? (i := 16) rfl) rfl), List.mem_of_getElem? (i := 4) rfl, tb_fit.1, tb_fit.2.2, rfl, mm_allL_mem tb_x0⟩, trivial⟩
set_option maxRecDepth 20000 in
theorem tb_xt_76 : mm_allL (fun q => mm_xR tb_P tb_TB tb_SB tb_cl tb_cn tb_kb tb_hs tb_X 76 q.1 q.2) ((tb_XT[76]?).getD []) := ⟨⟨Or.inr rfl, by decide, "java/lang/IllegalArgumentException", tb_TX, 129, 204, 133, "what is 0 to 7", tb_names2, rfl, by decide +kernel, by decide +kernel, by decide +kernel, by decide +kernel, by decide +kernel, (tb_i6 (List.mem_of_getElem? (i := 62) rfl) rfl), (tb_i6 (List.mem_of_getElem? (i := 63) rfl) rfl), (tb_i1 (List.mem_of_getElem? (i := 26) rfl) rfl), List.mem_of_getElem? (i := 11) rfl, tb_fit.2.1, tb_fit.2.2, rfl, mm_allL_mem tb_x1⟩, trivial⟩
set_option maxRecDepth 20000 in
theorem tb_xt_77 : mm_allL (fun q => mm_xR tb_P tb_TB tb_SB tb_cl tb_cn tb_kb tb_hs tb_X 77 q.1 q.2) ((tb_XT[77]?).getD []) := trivial
set_option maxRecDepth 20000 in
theorem tb_xt_78 : mm_allL (fun q => mm_xR tb_P tb_TB tb_SB tb_cl tb_cn tb_kb tb_hs tb_X 78 q.1 q.2) ((tb_XT[78]?).getD []) := ⟨⟨Or.inr rfl, by decide, "java/lang/IllegalArgumentException", tb_TX, 129, 219, 133, "a number is too great or too small", tb_names2, rfl, by decide +kernel, by decide +kernel, by decide +kernel, by decide +kernel, by decide +kernel, (tb_i6 (List.mem_of_getElem? (i := 62) rfl) rfl), (tb_i6 (List.mem_of_getElem? (i := 63) rfl) rfl), (tb_i1 (List.mem_of_getElem? (i := 26) rfl) rfl), List.mem_of_getElem? (i := 12) rfl, tb_fit.2.1, tb_fit.2.2, rfl, mm_allL_mem tb_x1⟩,
  ⟨Or.inl rfl, by decide, "java/lang/IllegalStateException", tb_TX, 91, 224, 95, "the desk is full", tb_names2, rfl, by decide +kernel, by decide +kernel, by decide +kernel, by decide +kernel, by decide +kernel, (tb_i6 (List.mem_of_getElem? (i := 47) rfl) rfl), (tb_i3 (List.mem_of_getElem? (i := 147) rfl) rfl), (tb_i1 (List.mem_of_getElem? (i := 16) rfl) rfl), List.mem_of_getElem? (i := 13) rfl, tb_fit.1, tb_fit.2.2, rfl, mm_allL_mem tb_x0⟩, trivial⟩
set_option maxRecDepth 20000 in
theorem tb_xt_79 : mm_allL (fun q => mm_xR tb_P tb_TB tb_SB tb_cl tb_cn tb_kb tb_hs tb_X 79 q.1 q.2) ((tb_XT[79]?).getD []) := ⟨⟨Or.inr rfl, by decide, "java/lang/IllegalArgumentException", tb_TX, 129, 219, 133, "a number is too great or too small", tb_names2, rfl, by decide +kernel, by decide +kernel, by decide +kernel, by decide +kernel, by decide +kernel, (tb_i6 (List.mem_of_getElem? (i := 62) rfl) rfl), (tb_i6 (List.mem_of_getElem? (i := 63) rfl) rfl), (tb_i1 (List.mem_of_getElem? (i := 26) rfl) rfl), List.mem_of_getElem? (i := 12) rfl, tb_fit.2.1, tb_fit.2.2, rfl, mm_allL_mem tb_x1⟩, trivial⟩
set_option maxRecDepth 20000 in
theorem tb_xt_80 : mm_allL (fun q => mm_xR tb_P tb_TB tb_SB tb_cl tb_cn tb_kb tb_hs tb_X 80 q.1 q.2) ((tb_XT[80]?).getD []) := trivial
set_option maxRecDepth 20000 in
theorem tb_xt_81 : mm_allL (fun q => mm_xR tb_P tb_TB tb_SB tb_cl tb_cn tb_kb tb_hs tb_X 81 q.1 q.2) ((tb_XT[81]?).getD []) := trivial
set_option maxRecDepth 20000 in
theorem tb_xt_82 : mm_allL (fun q => mm_xR tb_P tb_TB tb_SB tb_cl tb_cn tb_kb tb_hs tb_X 82 q.1 q.2) ((tb_XT[82]?).getD []) := trivial
set_option maxRecDepth 20000 in
theorem tb_xt_83 : mm_allL (fun q => mm_xR tb_P tb_TB tb_SB tb_cl tb_cn tb_kb tb_hs tb_X 83 q.1 q.2) ((tb_XT[83]?).getD []) := trivial
set_option maxRecDepth 20000 in
theorem tb_xt_84 : mm_allL (fun q => mm_xR tb_P tb_TB tb_SB tb_cl tb_cn tb_kb tb_hs tb_X 84 q.1 q.2) ((tb_XT[84]?).getD []) := trivial
set_option maxRecDepth 20000 in
theorem tb_xt_85 : mm_allL (fun q => mm_xR tb_P tb_TB tb_SB tb_cl tb_cn tb_kb tb_hs tb_X 85 q.1 q.2) ((tb_XT[85]?).getD []) := trivial
set_option maxRecDepth 20000 in
theorem tb_xt_86 : mm_allL (fun q => mm_xR tb_P tb_TB tb_SB tb_cl tb_cn tb_kb tb_hs tb_X 86 q.1 q.2) ((tb_XT[86]?).getD []) := trivial
set_option maxRecDepth 20000 in
theorem tb_xt_87 : mm_allL (fun q => mm_xR tb_P tb_TB tb_SB tb_cl tb_cn tb_kb tb_hs tb_X 87 q.1 q.2) ((tb_XT[87]?).getD []) := trivial
set_option maxRecDepth 20000 in
theorem tb_xt_88 : mm_allL (fun q => mm_xR tb_P tb_TB tb_SB tb_cl tb_cn tb_kb tb_hs tb_X 88 q.1 q.2) ((tb_XT[88]?).getD []) := trivial
set_option maxRecDepth 20000 in
theorem tb_xt_89 : mm_allL (fun q => mm_xR tb_P tb_TB tb_SB tb_cl tb_cn tb_kb tb_hs tb_X 89 q.1 q.2) ((tb_XT[89]?).getD []) := trivial
set_option maxRecDepth 20000 in
theorem tb_xt_90 : mm_allL (fun q => mm_xR tb_P tb_TB tb_SB tb_cl tb_cn tb_kb tb_hs tb_X 90 q.1 q.2) ((tb_XT[90]?).getD []) := trivial
set_option maxRecDepth 20000 in
theorem tb_xt_91 : mm_allL (fun q => mm_xR tb_P tb_TB tb_SB tb_cl tb_cn tb_kb tb_hs tb_X 91 q.1 q.2) ((tb_XT[91]?).getD []) := trivial
set_option maxRecDepth 20000 in
theorem tb_xt_92 : mm_allL (fun q => mm_xR tb_P tb_TB tb_SB tb_cl tb_cn tb_kb tb_hs tb_X 92 q.1 q.2) ((tb_XT[92]?).getD []) := trivial
set_option maxRecDepth 20000 in
theorem tb_xt_93 : mm_allL (fun q => mm_xR tb_P tb_TB tb_SB tb_cl tb_cn tb_kb tb_hs tb_X 93 q.1 q.2) ((tb_XT[93]?).getD []) := trivial
set_option maxRecDepth 20000 in
theorem tb_xt_94 : mm_allL (fun q => mm_xR tb_P tb_TB tb_SB tb_cl tb_cn tb_kb tb_hs tb_X 94 q.1 q.2) ((tb_XT[94]?).getD []) := trivial
set_option maxRecDepth 20000 in
theorem tb_xt_95 : mm_allL (fun q => mm_xR tb_P tb_TB tb_SB tb_cl tb_cn tb_kb tb_hs tb_X 95 q.1 q.2) ((tb_XT[95]?).getD []) := trivial
set_option maxRecDepth 20000 in
theorem tb_xt_96 : mm_allL (fun q => mm_xR tb_P tb_TB tb_SB tb_cl tb_cn tb_kb tb_hs tb_X 96 q.1 q.2) ((tb_XT[96]?).getD []) := trivial
set_option maxRecDepth 20000 in
theorem tb_xt_97 : mm_allL (fun q => mm_xR tb_P tb_TB tb_SB tb_cl tb_cn tb_kb tb_hs tb_X 97 q.1 q.2) ((tb_XT[97]?).getD []) := ⟨⟨Or.inl rfl, by decide, "java/lang/IllegalStateException", tb_TX, 82, 186, 188, "the line cannot go on so", tb_names2, rfl, by decide +kernel, by decide +kernel, by decide +kernel, by decide +kernel, by decide +kernel, (tb_i3 (List.mem_of_getElem? (i := 8) rfl) rfl), (tb_i3 (List.mem_of_getElem? (i := 147) rfl) rfl), (tb_i1 (List.mem_of_getElem? (i := 16) rfl) rfl), List.mem_of_getElem? (i := 14) rfl, tb_fit.1, tb_fit.2.2, rfl, mm_allL_mem tb_x2⟩, trivial⟩
set_option maxRecDepth 20000 in
theorem tb_xt_98 : mm_allL (fun q => mm_xR tb_P tb_TB tb_SB tb_cl tb_cn tb_kb tb_hs tb_X 98 q.1 q.2) ((tb_XT[98]?).getD []) := trivial
set_option maxRecDepth 20000 in
theorem tb_xt_99 : mm_allL (fun q => mm_xR tb_P tb_TB tb_SB tb_cl tb_cn tb_kb tb_hs tb_X 99 q.1 q.2) ((tb_XT[99]?).getD []) := trivial
set_option maxRecDepth 20000 in
theorem tb_xt_100 : mm_allL (fun q => mm_xR tb_P tb_TB tb_SB tb_cl tb_cn tb_kb tb_hs tb_X 100 q.1 q.2) ((tb_XT[100]?).getD []) := trivial
set_option maxRecDepth 20000 in
theorem tb_xt_101 : mm_allL (fun q => mm_xR tb_P tb_TB tb_SB tb_cl tb_cn tb_kb tb_hs tb_X 101 q.1 q.2) ((tb_XT[101]?).getD []) := trivial
set_option maxRecDepth 20000 in
theorem tb_xt_102 : mm_allL (fun q => mm_xR tb_P tb_TB tb_SB tb_cl tb_cn tb_kb tb_hs tb_X 102 q.1 q.2) ((tb_XT[102]?).getD []) := trivial
set_option maxRecDepth 20000 in
theorem tb_xt_103 : mm_allL (fun q => mm_xR tb_P tb_TB tb_SB tb_cl tb_cn tb_kb tb_hs tb_X 103 q.1 q.2) ((tb_XT[103]?).getD []) := trivial
set_option maxRecDepth 20000 in
theorem tb_xt_104 : mm_allL (fun q => mm_xR tb_P tb_TB tb_SB tb_cl tb_cn tb_kb tb_hs tb_X 104 q.1 q.2) ((tb_XT[104]?).getD []) := trivial
set_option maxRecDepth 20000 in
theorem tb_xt_105 : mm_allL (fun q => mm_xR tb_P tb_TB tb_SB tb_cl tb_cn tb_kb tb_hs tb_X 105 q.1 q.2) ((tb_XT[105]?).getD []) := trivial
set_option maxRecDepth 20000 in
theorem tb_xt_106 : mm_allL (fun q => mm_xR tb_P tb_TB tb_SB tb_cl tb_cn tb_kb tb_hs tb_X 106 q.1 q.2) ((tb_XT[106]?).getD []) := trivial
set_option maxRecDepth 20000 in
theorem tb_xt_107 : mm_allL (fun q => mm_xR tb_P tb_TB tb_SB tb_cl tb_cn tb_kb tb_hs tb_X 107 q.1 q.2) ((tb_XT[107]?).getD []) := trivial
set_option maxRecDepth 20000 in
theorem tb_xt_108 : mm_allL (fun q => mm_xR tb_P tb_TB tb_SB tb_cl tb_cn tb_kb tb_hs tb_X 108 q.1 q.2) ((tb_XT[108]?).getD []) := trivial
set_option maxRecDepth 20000 in
theorem tb_xt_109 : mm_allL (fun q => mm_xR tb_P tb_TB tb_SB tb_cl tb_cn tb_kb tb_hs tb_X 109 q.1 q.2) ((tb_XT[109]?).getD []) := trivial
set_option maxRecDepth 20000 in
theorem tb_xt_110 : mm_allL (fun q => mm_xR tb_P tb_TB tb_SB tb_cl tb_cn tb_kb tb_hs tb_X 110 q.1 q.2) ((tb_XT[110]?).getD []) := trivial
set_option maxRecDepth 20000 in
theorem tb_xt_111 : mm_allL (fun q => mm_xR tb_P tb_TB tb_SB tb_cl tb_cn tb_kb tb_hs tb_X 111 q.1 q.2) ((tb_XT[111]?).getD []) := trivial
set_option maxRecDepth 20000 in
theorem tb_xt_112 : mm_allL (fun q => mm_xR tb_P tb_TB tb_SB tb_cl tb_cn tb_kb tb_hs tb_X 112 q.1 q.2) ((tb_XT[112]?).getD []) := trivial
set_option maxRecDepth 20000 in
theorem tb_xt_113 : mm_allL (fun q => mm_xR tb_P tb_TB tb_SB tb_cl tb_cn tb_kb tb_hs tb_X 113 q.1 q.2) ((tb_XT[113]?).getD []) := trivial
set_option maxRecDepth 20000 in
theorem tb_xt_114 : mm_allL (fun q => mm_xR tb_P tb_TB tb_SB tb_cl tb_cn tb_kb tb_hs tb_X 114 q.1 q.2) ((tb_XT[114]?).getD []) := trivial
set_option maxRecDepth 20000 in
theorem tb_xt_115 : mm_allL (fun q => mm_xR tb_P tb_TB tb_SB tb_cl tb_cn tb_kb tb_hs tb_X 115 q.1 q.2) ((tb_XT[115]?).getD []) := trivial
set_option maxRecDepth 20000 in
theorem tb_xt_116 : mm_allL (fun q => mm_xR tb_P tb_TB tb_SB tb_cl tb_cn tb_kb tb_hs tb_X 116 q.1 q.2) ((tb_XT[116]?).getD []) := trivial
set_option maxRecDepth 20000 in
theorem tb_xt_117 : mm_allL (fun q => mm_xR tb_P tb_TB tb_SB tb_cl tb_cn tb_kb tb_hs tb_X 117 q.1 q.2) ((tb_XT[117]?).getD []) := trivial
set_option maxRecDepth 20000 in
theorem tb_xt_118 : mm_allL (fun q => mm_xR tb_P tb_TB tb_SB tb_cl tb_cn tb_kb tb_hs tb_X 118 q.1 q.2) ((tb_XT[118]?).getD []) := trivial
set_option maxRecDepth 20000 in
theorem tb_xt_119 : mm_allL (fun q => mm_xR tb_P tb_TB tb_SB tb_cl tb_cn tb_kb tb_hs tb_X 119 q.1 q.2) ((tb_XT[119]?).getD []) := trivial
set_option maxRecDepth 20000 in
theorem tb_xt_120 : mm_allL (fun q => mm_xR tb_P tb_TB tb_SB tb_cl tb_cn tb_kb tb_hs tb_X 120 q.1 q.2) ((tb_XT[120]?).getD []) := trivial
set_option maxRecDepth 20000 in
theorem tb_xt_121 : mm_allL (fun q => mm_xR tb_P tb_TB tb_SB tb_cl tb_cn tb_kb tb_hs tb_X 121 q.1 q.2) ((tb_XT[121]?).getD []) := trivial
set_option maxRecDepth 20000 in
theorem tb_xt_122 : mm_allL (fun q => mm_xR tb_P tb_TB tb_SB tb_cl tb_cn tb_kb tb_hs tb_X 122 q.1 q.2) ((tb_XT[122]?).getD []) := trivial
set_option maxRecDepth 20000 in
theorem tb_xt_123 : mm_allL (fun q => mm_xR tb_P tb_TB tb_SB tb_cl tb_cn tb_kb tb_hs tb_X 123 q.1 q.2) ((tb_XT[123]?).getD []) := trivial
set_option maxRecDepth 20000 in
theorem tb_xt_124 : mm_allL (fun q => mm_xR tb_P tb_TB tb_SB tb_cl tb_cn tb_kb tb_hs tb_X 124 q.1 q.2) ((tb_XT[124]?).getD []) := trivial
set_option maxRecDepth 20000 in
theorem tb_xt_125 : mm_allL (fun q => mm_xR tb_P tb_TB tb_SB tb_cl tb_cn tb_kb tb_hs tb_X 125 q.1 q.2) ((tb_XT[125]?).getD []) := trivial
set_option maxRecDepth 20000 in
theorem tb_xt_126 : mm_allL (fun q => mm_xR tb_P tb_TB tb_SB tb_cl tb_cn tb_kb tb_hs tb_X 126 q.1 q.2) ((tb_XT[126]?).getD []) := trivial
set_option maxRecDepth 20000 in
theorem tb_xt_127 : mm_allL (fun q => mm_xR tb_P tb_TB tb_SB tb_cl tb_cn tb_kb tb_hs tb_X 127 q.1 q.2) ((tb_XT[127]?).getD []) := trivial
set_option maxRecDepth 20000 in
theorem tb_xt_128 : mm_allL (fun q => mm_xR tb_P tb_TB tb_SB tb_cl tb_cn tb_kb tb_hs tb_X 128 q.1 q.2) ((tb_XT[128]?).getD []) := trivial
set_option maxRecDepth 20000 in
theorem tb_xt_129 : mm_allL (fun q => mm_xR tb_P tb_TB tb_SB tb_cl tb_cn tb_kb tb_hs tb_X 129 q.1 q.2) ((tb_XT[129]?).getD []) := trivial
set_option maxRecDepth 20000 in
theorem tb_xt_130 : mm_allL (fun q => mm_xR tb_P tb_TB tb_SB tb_cl tb_cn tb_kb tb_hs tb_X 130 q.1 q.2) ((tb_XT[130]?).getD []) := trivial
set_option maxRecDepth 20000 in
theorem tb_xt_131 : mm_allL (fun q => mm_xR tb_P tb_TB tb_SB tb_cl tb_cn tb_kb tb_hs tb_X 131 q.1 q.2) ((tb_XT[131]?).getD []) := trivial
set_option maxRecDepth 20000 in
theorem tb_xt_132 : mm_allL (fun q => mm_xR tb_P tb_TB tb_SB tb_cl tb_cn tb_kb tb_hs tb_X 132 q.1 q.2) ((tb_XT[132]?).getD []) := trivial
set_option maxRecDepth 20000 in
theorem tb_xt_133 : mm_allL (fun q => mm_xR tb_P tb_TB tb_SB tb_cl tb_cn tb_kb tb_hs tb_X 133 q.1 q.2) ((tb_XT[133]?).getD []) := trivial
set_option maxRecDepth 20000 in
theorem tb_xt_134 : mm_allL (fun q => mm_xR tb_P tb_TB tb_SB tb_cl tb_cn tb_kb tb_hs tb_X 134 q.1 q.2) ((tb_XT[134]?).getD []) := trivial
set_option maxRecDepth 20000 in
theorem tb_xt_135 : mm_allL (fun q => mm_xR tb_P tb_TB tb_SB tb_cl tb_cn tb_kb tb_hs tb_X 135 q.1 q.2) ((tb_XT[135]?).getD []) := trivial
set_option maxRecDepth 20000 in
theorem tb_xt_all : mm_all2P (fun k pc ci => mm_xR tb_P tb_TB tb_SB tb_cl tb_cn tb_kb tb_hs tb_X k pc ci) 0 tb_XT := ⟨tb_xt_0, tb_xt_1, tb_xt_2, tb_xt_3, tb_xt_4, tb_xt_5, tb_xt_6, tb_xt_7, tb_xt_8, tb_xt_9, tb_xt_10, tb_xt_11, tb_xt_12, tb_xt_13, tb_xt_14, tb_xt_15, tb_xt_16, tb_xt_17, tb_xt_18, tb_xt_19, tb_xt_20, tb_xt_21, tb_xt_22, tb_xt_23, tb_xt_24, tb_xt_25, tb_xt_26, tb_xt_27, tb_xt_28, tb_xt_29, tb_xt_30, tb_xt_31, tb_xt_32, tb_xt_33, tb_xt_34, tb_xt_35, tb_xt_36, tb_xt_37, tb_xt_38, tb_xt_39, tb_xt_40, tb_xt_41, tb_xt_42, tb_xt_43, tb_xt_44, tb_xt_45, tb_xt_46, tb_xt_47, tb_xt_48, tb_xt_49, tb_xt_50, tb_xt_51, tb_xt_52, tb_xt_53, tb_xt_54, tb_xt_55, tb_xt_56, tb_xt_57, tb_xt_58, tb_xt_59, tb_xt_60, tb_xt_61, tb_xt_62, tb_xt_63, tb_xt_64, tb_xt_65, tb_xt_66, tb_xt_67, tb_xt_68, tb_xt_69, tb_xt_70, tb_xt_71, tb_xt_72, tb_xt_73, tb_xt_74, tb_xt_75, tb_xt_76, tb_xt_77, tb_xt_78, tb_xt_79, tb_xt_80, tb_xt_81, tb_xt_82, tb_xt_83, tb_xt_84, tb_xt_85, tb_xt_86, tb_xt_87, tb_xt_88, tb_xt_89, tb_xt_90, tb_xt_91, tb_xt_92, tb_xt_93, tb_xt_94, tb_xt_95, tb_xt_96, tb_xt_97, tb_xt_98, tb_xt_99, tb_xt_100, tb_xt_101, tb_xt_102, tb_xt_103, tb_xt_104, tb_xt_105, tb_xt_106, tb_xt_107, tb_xt_108, tb_xt_109, tb_xt_110, tb_xt_111, tb_xt_112, tb_xt_113, tb_xt_114, tb_xt_115, tb_xt_116, tb_xt_117, tb_xt_118, tb_xt_119, tb_xt_120, tb_xt_121, tb_xt_122, tb_xt_123, tb_xt_124, tb_xt_125, tb_xt_126, tb_xt_127, tb_xt_128, tb_xt_129, tb_xt_130, tb_xt_131, tb_xt_132, tb_xt_133, tb_xt_134, tb_xt_135, trivial⟩
theorem tb_xc_0 : mm_allL (fun q => q.1 ≠ 0 ∧ tb_X q.2 ∧ ∃ X T, tb_cl[q.2]? = some (X, T, 0) ∧ Cond.classLink (tb_cn 0) q.1 X ∈ tb_TB) ((tb_XC[0]?).getD []) := trivial
theorem tb_xc_1 : mm_allL (fun q => q.1 ≠ 0 ∧ tb_X q.2 ∧ ∃ X T, tb_cl[q.2]? = some (X, T, 0) ∧ Cond.classLink (tb_cn 1) q.1 X ∈ tb_TB) ((tb_XC[1]?).getD []) := trivial
theorem tb_xc_2 : mm_allL (fun q => q.1 ≠ 0 ∧ tb_X q.2 ∧ ∃ X T, tb_cl[q.2]? = some (X, T, 0) ∧ Cond.classLink (tb_cn 2) q.1 X ∈ tb_TB) ((tb_XC[2]?).getD []) := ⟨⟨by decide, Or.inl rfl, _, _, rfl, (tb_i3 (List.mem_of_getElem? (i := 8) rfl) rfl)⟩, trivial⟩
theorem tb_xc_3 : mm_allL (fun q => q.1 ≠ 0 ∧ tb_X q.2 ∧ ∃ X T, tb_cl[q.2]? = some (X, T, 0) ∧ Cond.classLink (tb_cn 3) q.1 X ∈ tb_TB) ((tb_XC[3]?).getD []) := trivial
theorem tb_xc_4 : mm_allL (fun q => q.1 ≠ 0 ∧ tb_X q.2 ∧ ∃ X T, tb_cl[q.2]? = some (X, T, 0) ∧ Cond.classLink (tb_cn 4) q.1 X ∈ tb_TB) ((tb_XC[4]?).getD []) := trivial
theorem tb_xc_5 : mm_allL (fun q => q.1 ≠ 0 ∧ tb_X q.2 ∧ ∃ X T, tb_cl[q.2]? = some (X, T, 0) ∧ Cond.classLink (tb_cn 5) q.1 X ∈ tb_TB) ((tb_XC[5]?).getD []) := trivial
theorem tb_xc_6 : mm_allL (fun q => q.1 ≠ 0 ∧ tb_X q.2 ∧ ∃ X T, tb_cl[q.2]? = some (X, T, 0) ∧ Cond.classLink (tb_cn 6) q.1 X ∈ tb_TB) ((tb_XC[6]?).getD []) := ⟨⟨by decide, Or.inl rfl, _, _, rfl, (tb_i4 (List.mem_of_getElem? (i := 130) rfl) rfl)⟩, trivial⟩
theorem tb_xc_7 : mm_allL (fun q => q.1 ≠ 0 ∧ tb_X q.2 ∧ ∃ X T, tb_cl[q.2]? = some (X, T, 0) ∧ Cond.classLink (tb_cn 7) q.1 X ∈ tb_TB) ((tb_XC[7]?).getD []) := trivial
theorem tb_xc_8 : mm_allL (fun q => q.1 ≠ 0 ∧ tb_X q.2 ∧ ∃ X T, tb_cl[q.2]? = some (X, T, 0) ∧ Cond.classLink (tb_cn 8) q.1 X ∈ tb_TB) ((tb_XC[8]?).getD []) := trivial
theorem tb_xc_9 : mm_allL (fun q => q.1 ≠ 0 ∧ tb_X q.2 ∧ ∃ X T, tb_cl[q.2]? = some (X, T, 0) ∧ Cond.classLink (tb_cn 9) q.1 X ∈ tb_TB) ((tb_XC[9]?).getD []) := trivial
theorem tb_xc_10 : mm_allL (fun q => q.1 ≠ 0 ∧ tb_X q.2 ∧ ∃ X T, tb_cl[q.2]? = some (X, T, 0) ∧ Cond.classLink (tb_cn 10) q.1 X ∈ tb_TB) ((tb_XC[10]?).getD []) := trivial
theorem tb_xc_11 : mm_allL (fun q => q.1 ≠ 0 ∧ tb_X q.2 ∧ ∃ X T, tb_cl[q.2]? = some (X, T, 0) ∧ Cond.classLink (tb_cn 11) q.1 X ∈ tb_TB) ((tb_XC[11]?).getD []) := trivial
theorem tb_xc_12 : mm_allL (fun q => q.1 ≠ 0 ∧ tb_X q.2 ∧ ∃ X T, tb_cl[q.2]? = some (X, T, 0) ∧ Cond.classLink (tb_cn 12) q.1 X ∈ tb_TB) ((tb_XC[12]?).getD []) := trivial
theorem tb_xc_13 : mm_allL (fun q => q.1 ≠ 0 ∧ tb_X q.2 ∧ ∃ X T, tb_cl[q.2]? = some (X, T, 0) ∧ Cond.classLink (tb_cn 13) q.1 X ∈ tb_TB) ((tb_XC[13]?).getD []) := trivial
theorem tb_xc_14 : mm_allL (fun q => q.1 ≠ 0 ∧ tb_X q.2 ∧ ∃ X T, tb_cl[q.2]? = some (X, T, 0) ∧ Cond.classLink (tb_cn 14) q.1 X ∈ tb_TB) ((tb_XC[14]?).getD []) := trivial
theorem tb_xc_15 : mm_allL (fun q => q.1 ≠ 0 ∧ tb_X q.2 ∧ ∃ X T, tb_cl[q.2]? = some (X, T, 0) ∧ Cond.classLink (tb_cn 15) q.1 X ∈ tb_TB) ((tb_XC[15]?).getD []) := ⟨⟨by decide, Or.inl rfl, _, _, rfl, (tb_i6 (List.mem_of_getElem? (i := 39) rfl) rfl)⟩, ⟨by decide, Or.inr rfl, _, _, rfl, (tb_i6 (List.mem_of_getElem? (i := 57) rfl) rfl)⟩, trivial⟩
theorem tb_xc_16 : mm_allL (fun q => q.1 ≠ 0 ∧ tb_X q.2 ∧ ∃ X T, tb_cl[q.2]? = some (X, T, 0) ∧ Cond.classLink (tb_cn 16) q.1 X ∈ tb_TB) ((tb_XC[16]?).getD []) := trivial
theorem tb_xc_17 : mm_allL (fun q => q.1 ≠ 0 ∧ tb_X q.2 ∧ ∃ X T, tb_cl[q.2]? = some (X, T, 0) ∧ Cond.classLink (tb_cn 17) q.1 X ∈ tb_TB) ((tb_XC[17]?).getD []) := trivial
set_option maxRecDepth 20000 in
theorem tb_xc_all : mm_all2P (fun o ct cj => ct ≠ 0 ∧ tb_X cj ∧ ∃ X T, tb_cl[cj]? = some (X, T, 0) ∧ Cond.classLink (tb_cn o) ct X ∈ tb_TB) 0 tb_XC := ⟨tb_xc_0, tb_xc_1, tb_xc_2, tb_xc_3, tb_xc_4, tb_xc_5, tb_xc_6, tb_xc_7, tb_xc_8, tb_xc_9, tb_xc_10, tb_xc_11, tb_xc_12, tb_xc_13, tb_xc_14, tb_xc_15, tb_xc_16, tb_xc_17, trivial⟩
end
section
theorem tb_ok3 : mm_ok3 tb_P tb_TB tb_SB tb_cl tb_cn tb_ky tb_kb tb_hs tb_xc tb_X :=
  ⟨tb_dec, fun k pc lo dt ts h => mm_swc_ok (Nat.zero_add k ▸ mm_all2P_ok tb_sall h), fun o i k' na kd h => (Nat.zero_add o ▸ mm_all2P_ok tb_ml_all h : mm_mR tb_P tb_TB tb_cl tb_cn tb_ky tb_kb tb_hs o i (k', na, kd)).1, fun o i k' na h => (Nat.zero_add o ▸ mm_all2P_ok tb_ml_all h : mm_mR tb_P tb_TB tb_cl tb_cn tb_ky tb_kb tb_hs o i (k', na, 3)).2.1 rfl, fun o i k' na h => (Nat.zero_add o ▸ mm_all2P_ok tb_ml_all h : mm_mR tb_P tb_TB tb_cl tb_cn tb_ky tb_kb tb_hs o i (k', na, 4)).2.2 rfl,
  fun k pc ci h => (Nat.zero_add k ▸ mm_all2P_ok tb_xt_all h : mm_xR tb_P tb_TB tb_SB tb_cl tb_cn tb_kb tb_hs tb_X k pc ci), fun k pc ci _ => mm_khf_ok tb_hs tb_xc k pc ci, fun k ct cj h => by
    have q := mm_all2P_ok tb_xc_all h
    rw [Nat.zero_add] at q
    exact q⟩
theorem tb_sb : mm_allL (fun q : String × Nat × String => Cond.stringRef q.1 q.2.1 q.2.2 ∈ lw_tbl) tb_SB := ⟨List.mem_append_right _ (List.mem_append_right _ (List.mem_append_right _ (List.mem_append_right _ (List.mem_append_right _ (List.mem_append_right _ (List.mem_append_left _ (show _ ∈ tables_1_6 from List.mem_of_getElem? (i := 48) rfl))))))), List.mem_append_right _ (List.mem_append_right _ (List.mem_append_right _ (List.mem_append_right _ (List.mem_append_right _ (List.mem_append_right _ (List.mem_append_left _ (show _ ∈ tables_1_6 from List.mem_of_getElem? (i := 71) rfl))))))), List.mem_append_right _ (List.mem_append_right _ (List.mem_append_right _ (List.mem_append_right _ (List.mem_append_right _ (List.mem_append_right _ (List.mem_append_left _ (show _ ∈ tables_1_6 from List.mem_of_getElem? (i := 89) rfl))))))), List.mem_append_right _ (List.mem_append_right _ (List.mem_append_right _ (List.mem_append_right _ (List.mem_append_right _ (List.mem_append_right _ (List.mem_append_left _ (show _ ∈ tables_1_6 from List.mem_of_getElem? (i := 105) rfl))))))), List.mem_append_right _ (List.mem_append_right _ (List.mem_append_right _ (List.mem_append_right _ (List.mem_append_right _ (List.mem_append_right _ (List.mem_append_left _ (show _ ∈ tables_1_6 from List.mem_of_getElem? (i := 110) rfl))))))), List.mem_append_right _ (List.mem_append_right _ (List.mem_append_right _ (List.mem_append_right _ (List.mem_append_right _ (List.mem_append_right _ (List.mem_append_left _ (show _ ∈ tables_1_6 from List.mem_of_getElem? (i := 130) rfl))))))), List.mem_append_right _ (List.mem_append_right _ (List.mem_append_right _ (List.mem_append_right _ (List.mem_append_right _ (List.mem_append_right _ (List.mem_append_left _ (show _ ∈ tables_1_6 from List.mem_of_getElem? (i := 143) rfl))))))), List.mem_append_right _ (List.mem_append_right _ (List.mem_append_right _ (List.mem_append_right _ (List.mem_append_right _ (List.mem_append_right _ (List.mem_append_left _ (show _ ∈ tables_1_6 from List.mem_of_getElem? (i := 163) rfl))))))), List.mem_append_right _ (List.mem_append_right _ (List.mem_append_right _ (List.mem_append_right _ (List.mem_append_right _ (List.mem_append_right _ (List.mem_append_left _ (show _ ∈ tables_1_6 from List.mem_of_getElem? (i := 176) rfl))))))), List.mem_append_right _ (List.mem_append_right _ (List.mem_append_right _ (List.mem_append_right _ (List.mem_append_right _ (List.mem_append_right _ (List.mem_append_left _ (show _ ∈ tables_1_6 from List.mem_of_getElem? (i := 192) rfl))))))), List.mem_append_right _ (List.mem_append_right _ (List.mem_append_right _ (List.mem_append_right _ (List.mem_append_right _ (List.mem_append_right _ (List.mem_append_left _ (show _ ∈ tables_1_6 from List.mem_of_getElem? (i := 204) rfl))))))), List.mem_append_right _ (List.mem_append_right _ (List.mem_append_right _ (List.mem_append_right _ (List.mem_append_right _ (List.mem_append_right _ (List.mem_append_right _ (List.mem_append_left _ (show _ ∈ tables_1_7 from List.mem_of_getElem? (i := 94) rfl)))))))), List.mem_append_right _ (List.mem_append_right _ (List.mem_append_right _ (List.mem_append_right _ (List.mem_append_right _ (List.mem_append_right _ (List.mem_append_right _ (List.mem_append_left _ (show _ ∈ tables_1_7 from List.mem_of_getElem? (i := 113) rfl)))))))), List.mem_append_right _ (List.mem_append_right _ (List.mem_append_right _ (List.mem_append_right _ (List.mem_append_right _ (List.mem_append_right _ (List.mem_append_right _ (List.mem_append_left _ (show _ ∈ tables_1_7 from List.mem_of_getElem? (i := 114) rfl)))))))), List.mem_append_right _ (List.mem_append_right _ (List.mem_append_right _ (List.mem_append_left _ (show _ ∈ tables_1_3 from List.mem_of_getElem? (i := 186) rfl)))), trivial⟩
theorem tb_inst : mm_all1P (fun (_ : Nat) (r : vw_C) => ∃ n, Cond.instantiable r.1 n ∈ tb_TB) 0 tb_cl := ⟨⟨_, (tb_i1 (List.mem_of_getElem? (i := 28) rfl) rfl)⟩, ⟨_, (tb_i1 (List.mem_of_getElem? (i := 36) rfl) rfl)⟩, ⟨_, (tb_i1 (List.mem_of_getElem? (i := 79) rfl) rfl)⟩, ⟨_, (tb_i1 (List.mem_of_getElem? (i := 110) rfl) rfl)⟩, ⟨_, (tb_i1 (List.mem_of_getElem? (i := 143) rfl) rfl)⟩, ⟨_, (tb_i1 (List.mem_of_getElem? (i := 104) rfl) rfl)⟩, ⟨_, (tb_i1 (List.mem_of_getElem? (i := 98) rfl) rfl)⟩, ⟨_, (tb_i2 (List.mem_of_getElem? (i := 22) rfl) rfl)⟩, ⟨_, (tb_i2 (List.mem_of_getElem? (i := 55) rfl) rfl)⟩, ⟨_, (tb_i2 (List.mem_of_getElem? (i := 74) rfl) rfl)⟩, ⟨_, (tb_i2 (List.mem_of_getElem? (i := 179) rfl) rfl)⟩, ⟨_, (tb_i4 (List.mem_of_getElem? (i := 158) rfl) rfl)⟩, ⟨_, (tb_i7 (List.mem_of_getElem? (i := 132) rfl) rfl)⟩, ⟨_, (tb_i3 (List.mem_of_getElem? (i := 147) rfl) rfl)⟩, ⟨_, (tb_i6 (List.mem_of_getElem? (i := 63) rfl) rfl)⟩, trivial⟩
theorem tb_cast : Cond.castable "java/lang/IllegalStateException" "java/lang/IllegalStateException" ∈ tb_TB ∧ Cond.castable "java/lang/IllegalArgumentException" "java/lang/IllegalArgumentException" ∈ tb_TB := ⟨(tb_i3 (List.mem_of_getElem? (i := 148) rfl) rfl), (tb_i6 (List.mem_of_getElem? (i := 64) rfl) rfl)⟩
theorem tb_ls : Cond.laysStatic Bundle.tN "UNASSIGNED_STACK" Bundle.steD ∈ tb_TB ∧ Cond.laysStatic Bundle.tN "SUPPRESSED_SENTINEL" Bundle.listD ∈ tb_TB := ⟨(tb_i3 (List.mem_of_getElem? (i := 173) rfl) rfl), (tb_i3 (List.mem_of_getElem? (i := 175) rfl) rfl)⟩
theorem tb_over : Cond.arrayOver (.object "IndexedCompiler$Tree") ∈ tb_TB ∧ Cond.arrayOver (.object "IndexedCompiler$Expression") ∈ tb_TB ∧ Cond.arrayOver (.object "IndexedCompiler$Shape") ∈ tb_TB ∧ Cond.arrayOver (.array .int) ∈ tb_TB := ⟨((tb_i1 (List.mem_of_getElem? (i := 96) rfl) rfl) : Cond.arrayOver (.object "IndexedCompiler$Tree") ∈ tb_TB), ((tb_i1 (List.mem_of_getElem? (i := 142) rfl) rfl) : Cond.arrayOver (.object "IndexedCompiler$Expression") ∈ tb_TB), ((tb_i1 (List.mem_of_getElem? (i := 213) rfl) rfl) : Cond.arrayOver (.object "IndexedCompiler$Shape") ∈ tb_TB), ((tb_i2 (List.mem_of_getElem? (i := 28) rfl) rfl) : Cond.arrayOver (.array .int) ∈ tb_TB)⟩
end
section
/-! THE LAW's START: what the small machine wants of it. -/
section MmStart
variable {s : State} {a0 : Array Value}
theorem mm_tyC {ty : FieldType} (h : (Cond.arrayClass ty).before a0 s = true) (hr : ∀ cA, s.vm.findClass ("[" ++ ty.toString) = some cA → va_RA s cA ty) : ∃ cA : ClassId, ArrOfT s cA ty ∧ va_RA s cA ty := by
  obtain ⟨c, k, comp, h1, h2, h3⟩ := Cond.arrayClass_spec h
  exact ⟨c, fun n z => ⟨(fun k h => by cases h), k, h2, comp, h3⟩, hr c h1⟩
theorem mm_tyO {C : String} (h : (Cond.arrayOver (.object C)).before a0 s = true) : ∃ cA : ClassId, ArrOfT s cA (.object C) ∧ va_RA s cA (.object C) := by
  obtain ⟨comp, c, k, h1, -, h3, h4, h5⟩ := Cond.arrayOver_spec h
  exact ⟨c, fun n z => ⟨(fun k h => by cases h), k, h3, comp, h4⟩, k, comp, h3, h4, h1, h5⟩
theorem mm_tyA {y : FieldType} (h : (Cond.arrayOver (.array y)).before a0 s = true) : ∃ cA : ClassId, ArrOfT s cA (.array y) ∧ va_RA s cA (.array y) := by
  obtain ⟨comp, c, k, h1, -, h3, h4, h5⟩ := arrayOverA_spec h
  exact ⟨c, fun n z => ⟨(fun k h => by cases h), k, h3, comp, h4⟩, h5⟩
theorem tb_tys (hts : ∀ w ∈ tb_TB, w.before a0 s = true) : ∀ (t : Nat), ∃ cA : ClassId, ∀ y, tb_tyl[t]? = some y → ArrOfT s cA y ∧ va_RA s cA y := by
  intro t
  have key : ∀ y, tb_tyl[t]? = some y → ∃ cA : ClassId, ArrOfT s cA y ∧ va_RA s cA y := by
    intro y hy
    have ht : t < 8 := (List.getElem?_eq_some_iff.mp hy).1
    have : t = 0 ∨ t = 1 ∨ t = 2 ∨ t = 3 ∨ t = 4 ∨ t = 5 ∨ t = 6 ∨ t = 7 := by omega
    rcases this with rfl | rfl | rfl | rfl | rfl | rfl | rfl | rfl
    · cases hy; exact mm_tyC (hts _ tb_ac.1) (fun cA h => h)
    · cases hy; exact mm_tyC (hts _ tb_ac.2.1) (fun cA h => h)
    · cases hy; exact mm_tyC (hts _ tb_ac.2.2.1) (fun cA h => h)
    · cases hy; exact mm_tyC (hts _ tb_ac.2.2.2) (fun cA h => h)
    · cases hy; exact mm_tyO (hts _ tb_over.1)
    · cases hy; exact mm_tyO (hts _ tb_over.2.1)
    · cases hy; exact mm_tyO (hts _ tb_over.2.2.1)
    · cases hy; exact mm_tyA (hts _ tb_over.2.2.2)
  cases ht : tb_tyl[t]? with
  | none => exact ⟨0, fun y hy => by cases hy⟩
  | some y =>
    obtain ⟨cA, h⟩ := key y ht
    exact ⟨cA, fun y' hy => by cases hy; exact h⟩
theorem tb_kns (hts : ∀ w ∈ tb_TB, w.before a0 s = true) : ∀ (c : Nat), ∃ p : ClassId × (Nat → Nat), ∀ q, tb_cl[c]? = some q → u_Kn s q.1 q.2.1 q.2.2 p.1 p.2 := by
  intro c
  cases hc : tb_cl[c]? with
  | none => exact ⟨(0, fun _ => 0), fun q hq => by cases hq⟩
  | some r =>
    obtain ⟨C, T, N⟩ := r
    obtain ⟨n, hn⟩ := mm_all1P_ok tb_inst hc
    obtain ⟨cC, iS, h⟩ := u_known (C := C) (T := T) (N := N) (n := n) hts (tb_ok2.1 c C T N hc).1 (hts _ hn)
    exact ⟨(cC, iS), fun q hq => by cases hq; exact h⟩
theorem tb_flat : ∃ i1 i2 i3 i4 : Nat, (flatC (Jvm.Cond.and given_1 narrow_1))[i1]? = some (.isRef (.static Bundle.tN "UNASSIGNED_STACK" Bundle.steD)) ∧ (flatC (Jvm.Cond.and given_1 narrow_1))[i2]? = some (.isRef (.static Bundle.tN "SUPPRESSED_SENTINEL" Bundle.listD)) ∧ (flatC (Jvm.Cond.and given_1 narrow_1))[i3]? = some (.not (.castable "java/lang/IllegalStateException" "java/lang/IllegalArgumentException")) ∧ (flatC (Jvm.Cond.and given_1 narrow_1))[i4]? = some (.not (.castable "java/lang/IllegalArgumentException" "java/lang/IllegalStateException")) := ⟨24, 25, 59, 47, rfl, rfl, rfl, rfl⟩
theorem tb_start (hl : ∀ w ∈ lw_tbl, w.before a0 s = true) (hgv : (Jvm.Cond.and given_1 narrow_1).before a0 s = true) : ∃ (D : va_G) (cT : Nat → Nat), mm_s0 tb_TB tb_SB tb_cl tb_tyl D cT tb_X a0 s := by
  have hts : ∀ w ∈ tb_TB, w.before a0 s = true := fun w hw => hl w (List.mem_filter.mp hw).1
  have hfl := flat_of_before _ hgv
  obtain ⟨i1, i2, i3, i4, f1, f2, f3, f4⟩ := tb_flat
  obtain ⟨cT, hcT⟩ := Classical.axiomOfChoice (tb_tys hts)
  obtain ⟨pD, hpD⟩ := Classical.axiomOfChoice (tb_kns hts)
  refine ⟨(fun c => (pD c).1, fun c => (pD c).2), cT, fun w hw => ⟨(List.mem_filter.mp hw).2, hts w hw⟩, fun q hq => hl _ (mm_allL_mem tb_sb q hq), ⟨hts _ tb_ls.1, hfl _ (List.mem_of_getElem? f1), hts _ tb_ls.2, hfl _ (List.mem_of_getElem? f2)⟩, ⟨fun c q hq => hpD c q hq, fun k q hq => ?_⟩, ?_⟩
  · rw [mm_T_get] at hq
    obtain ⟨y, hy, rfl⟩ := Option.map_eq_some_iff.mp hq
    dsimp only
    rw [Nat.zero_add]
    exact hcT k y hy
  · have e13 : s.vm.findClass "java/lang/IllegalStateException" = some (pD 13).1 := (hpD 13 ("java/lang/IllegalStateException", tb_TX, 0) rfl).2.1
    have e14 : s.vm.findClass "java/lang/IllegalArgumentException" = some (pD 14).1 := (hpD 14 ("java/lang/IllegalArgumentException", tb_TX, 0) rfl).2.1
    obtain ⟨x1, y1, a1, b1, c1⟩ := Cond.castable_spec (hts _ tb_cast.1)
    obtain ⟨x2, y2, a2, b2, c2⟩ := Cond.castable_spec (hts _ tb_cast.2)
    obtain ⟨x3, y3, a3, b3, c3⟩ := va_Nc.of (hfl _ (List.mem_of_getElem? f3))
    obtain ⟨x4, y4, a4, b4, c4⟩ := va_Nc.of (hfl _ (List.mem_of_getElem? f4))
    cases a1.symm.trans e13; cases b1.symm.trans e13
    cases a2.symm.trans e14; cases b2.symm.trans e14
    cases a3.symm.trans e13; cases b3.symm.trans e14
    cases a4.symm.trans e14; cases b4.symm.trans e13
    rintro ci cj (rfl | rfl) (rfl | rfl)
    · exact ⟨fun _ => rfl, fun _ => c1⟩
    · exact ⟨fun h => absurd (c3.symm.trans h) (by decide), fun h => by cases h⟩
    · exact ⟨fun h => absurd (c4.symm.trans h) (by decide), fun h => by cases h⟩
    · exact ⟨fun _ => rfl, fun _ => c2⟩
end MmStart
end
section
/-! THE SAME MACHINE, which forces its state at each step: so that Lean's own evaluation carries no heap of undone work along. -/
def mm_fn (n : Nat) (k : Nat → Prop) : Prop := match n with
  | 0 => k 0
  | m + 1 => k (m + 1)
theorem mm_fn_eq (n : Nat) (k : Nat → Prop) : mm_fn n k = k n := by cases n <;> rfl
def mm_fv (v : Value) (k : Value → Prop) : Prop := match v with
  | .ref n => mm_fn n (fun n => k (.ref n))
  | .int x => k (.int x)
  | .long x => k (.long x)
  | .null => k .null
  | v => k v
theorem mm_fv_eq (v : Value) (k : Value → Prop) : mm_fv v k = k v := by
  cases v <;> first | rfl | exact mm_fn_eq _ (fun n => k (.ref n))
def mm_fs : List Value → (List Value → Prop) → Prop
  | [], k => k []
  | v :: r, k => mm_fv v (fun v => mm_fs r (fun r => k (v :: r)))
theorem mm_fs_eq : ∀ (l : List Value) (k : List Value → Prop), mm_fs l k = k l
  | [], k => rfl
  | v :: r, k => by
    unfold mm_fs
    rw [mm_fv_eq, mm_fs_eq r]
def mm_fls : List (Nat × Value) → (List (Nat × Value) → Prop) → Prop
  | [], k => k []
  | (i, v) :: r, k => mm_fn i (fun i => mm_fv v (fun v => mm_fls r (fun r => k ((i, v) :: r))))
theorem mm_fls_eq : ∀ (l : List (Nat × Value)) (k : List (Nat × Value) → Prop), mm_fls l k = k l
  | [], k => rfl
  | (i, v) :: r, k => by
    unfold mm_fls
    rw [mm_fn_eq, mm_fv_eq, mm_fls_eq r]
def mm_fc (c : va_E) (k : va_E → Prop) : Prop := match c with
  | .inl (t, n, d) => mm_fn n (fun n => k (.inl (t, n, d)))
  | .inr o => k (.inr o)
theorem mm_fc_eq (c : va_E) (k : va_E → Prop) : mm_fc c k = k c := by
  unfold mm_fc
  split
  · exact mm_fn_eq _ _
  · rfl
def mm_fg : List va_E → (List va_E → Prop) → Prop
  | [], k => k []
  | c :: r, k => mm_fc c (fun c => mm_fg r (fun r => k (c :: r)))
theorem mm_fg_eq : ∀ (l : List va_E) (k : List va_E → Prop), mm_fg l k = k l
  | [], k => rfl
  | c :: r, k => by
    unfold mm_fg
    rw [mm_fc_eq, mm_fg_eq r]
def mm_fq : Nat → List va_E → (List va_E → Prop) → Prop
  | _, [], k => k []
  | 0, c :: r, k => match c with
    | .inr (ci, fs) => mm_fs fs (fun fs => k (.inr (ci, fs) :: r))
    | .inl a => k (.inl a :: r)
  | q + 1, c :: r, k => mm_fq q r (fun r => k (c :: r))
theorem mm_fq_eq : ∀ (q : Nat) (l : List va_E) (k : List va_E → Prop), mm_fq q l k = k l
  | 0, [], k => rfl
  | q + 1, [], k => rfl
  | 0, c :: r, k => by
    unfold mm_fq
    split
    · rw [mm_fs_eq]
    · rfl
  | q + 1, c :: r, k => by
    unfold mm_fq
    rw [mm_fq_eq q r]
/-- which cell an instruction changes: 0 none, 1 a new one, q + 2 the cell q -/
def mm_qi (ins : Instr) (st : List Value) : Nat := match ins with
  | .putfield _ => match st with
    | _ :: .ref (q + 1) :: _ => q + 2
    | _ => 0
  | .iastore | .lastore | .castore | .bastore | .aastore => match st with
    | _ :: _ :: .ref (q + 1) :: _ => q + 2
    | _ => 0
  | .new _ | .newarray _ | .anewarray _ => 1
  | _ => 0
def mm_fh (c : Nat) (g : List va_E) (k : List va_E → Prop) : Prop := match c with
  | 0 => k g
  | 1 => mm_fg g k
  | q + 2 => mm_fq q g k
theorem mm_fh_eq (c : Nat) (g : List va_E) (k : List va_E → Prop) : mm_fh c g k = k g := by
  unfold mm_fh
  split
  · rfl
  · exact mm_fg_eq _ _
  · exact mm_fq_eq _ _ _
/-- a switch, way by way -/
def mm_swl (x : Int) : Int → List Nat → (Nat → Prop) → Prop
  | _, [], _ => True
  | lo, t :: r, p => (x = lo → p t) ∧ mm_swl x (lo + 1) r p
theorem mm_swl_iff {x : Int} {p : Nat → Prop} : ∀ (ts : List Nat) (lo : Int), mm_swl x lo ts p ↔ ∀ (i t : Nat), ts[i]? = some t → x = lo + (i : Int) → p t
  | [], lo => ⟨fun _ i t h => by simp at h, fun _ => trivial⟩
  | t :: r, lo => by
    unfold mm_swl
    rw [mm_swl_iff r (lo + 1)]
    constructor
    · rintro ⟨h1, h2⟩ i t' ht hx
      cases i with
      | zero => cases ht; exact h1 (by omega)
      | succ i => exact h2 i t' (by simpa using ht) (by omega)
    · intro h
      exact ⟨fun hx => h 0 t rfl (by omega), fun i t' ht hx => h (i + 1) t' (by simpa using ht) (by omega)⟩
def mm_wE (P : mm_P) (Ln : Nat) (xs : Nat → Int32) (call : mm_Call) (k : Nat) : Nat → Nat → List (Nat × Value) → List Value → List va_E → Nat → mm_K → Prop
  | 0, _, _, _, _, _, _ => False
  | n + 1, pc, ls, st, g, sl, Q =>
    match mm_xt P k pc with
    | some ci => (g.length + 1 ≤ mm_CM P ∧ sl + 6 ≤ mm_SM P ∧ mm_cats st ≤ 8) ∧ mm_fn (g.length + 1) (fun p => mm_fg (g ++ [.inr (ci, [])]) (fun g => Q (.inr (ci, p)) g (sl + 6)))
    | none =>
    match mm_sw P k pc with
    | some (lo, dt, ts) => match st with
      | .int x :: r => ((x.toInt < lo ∨ lo + (ts.length : Int) - 1 < x.toInt) → mm_wE P Ln xs call k n dt ls r g sl Q) ∧ mm_swl x.toInt lo ts (fun t => mm_wE P Ln xs call k n t ls r g sl Q)
      | _ => False
    | none =>
    match mm_look (mm_kd P k) pc with
    | none => False
    | some ins =>
    match mm_s1 (mm_kl P k) (fun pc ls st => mm_fn pc (fun pc => mm_fls ls (fun ls => mm_fs st (fun st => mm_wE P Ln xs call k n pc ls st g sl Q)))) ins pc ls st with
    | some X => X
    | none =>
    match mm_s2 P k Ln xs (fun pc st' g sl => mm_fn pc (fun pc => mm_fn sl (fun sl => mm_fs st' (fun st' => mm_fh (mm_qi ins st) g (fun g => mm_wE P Ln xs call k n pc ls st' g sl Q))))) ins pc st g sl with
    | some X => X
    | none => mm_s3 P call k (fun pc st g sl => mm_fn pc (fun pc => mm_fn sl (fun sl => mm_fs st (fun st => mm_wE P Ln xs call k n pc ls st g sl Q)))) Q ins pc st g sl
theorem mm_wE_eq (P : mm_P) (Ln : Nat) (xs : Nat → Int32) (call : mm_Call) (k : Nat) : ∀ (n pc : Nat) (ls : List (Nat × Value)) (st : List Value) (g : List va_E) (sl : Nat) (Q : mm_K), mm_wE P Ln xs call k n pc ls st g sl Q = mm_w P Ln xs call k n pc ls st g sl Q
  | 0, _, _, _, _, _, _ => rfl
  | n + 1, pc, ls, st, g, sl, Q => by
    unfold mm_wE mm_w
    simp only [mm_fn_eq, mm_fls_eq, mm_fs_eq, mm_fg_eq, mm_fh_eq, mm_swl_iff, mm_wE_eq P Ln xs call k n]
    repeat (first | rfl | (split; skip))
/-- a call's values as locals -/
def mm_fa : Nat → List Value → (List (Nat × Value) → Prop) → Prop
  | _, [], k => k []
  | i, v :: r, k => mm_fv v (fun v => match v with
    | .long x => mm_fn (i + 2) (fun j => mm_fa j r (fun l => k ((i, .long x) :: l)))
    | .double x => mm_fn (i + 2) (fun j => mm_fa j r (fun l => k ((i, .double x) :: l)))
    | v => mm_fn (i + 1) (fun j => mm_fa j r (fun l => k ((i, v) :: l))))
theorem mm_fa_eq : ∀ (as : List Value) (i : Nat) (k : List (Nat × Value) → Prop), mm_fa i as k = k (lv_args i as)
  | [], i, k => rfl
  | v :: r, i, k => by
    unfold mm_fa lv_args
    rw [mm_fv_eq]
    split
    · rw [mm_fn_eq, mm_fa_eq r]; rfl
    · rw [mm_fn_eq, mm_fa_eq r]; rfl
    · rename_i h1 h2
      rw [mm_fn_eq, mm_fa_eq r]
      cases v <;> first | rfl | exact absurd rfl (h1 _) | exact absurd rfl (h2 _)
def mm_callE (P : mm_P) (Ln : Nat) (xs : Nat → Int32) : Nat → mm_Call
  | 0 => fun _ _ _ _ _ => False
  | d + 1 => fun k as g sl Q => ∃ n, mm_fa 0 as (fun ls => mm_wE P Ln xs (mm_callE P Ln xs d) k n 0 ls [] g sl Q)
theorem mm_callE_eq (P : mm_P) (Ln : Nat) (xs : Nat → Int32) : ∀ d, mm_callE P Ln xs d = mm_call P Ln xs d
  | 0 => rfl
  | d + 1 => by
    unfold mm_callE mm_call
    simp only [mm_fa_eq, mm_wE_eq, mm_callE_eq P Ln xs d]
end
section
/-! THE LAW UP TO ITS LOOP: both constructors, run. The cells by wip/sim.py. -/
def tb_G : List va_E := [.inr (0, [.ref 2, .ref 7, .ref 8, .ref 9, .ref 38, .ref 43, .ref 48, .ref 56, .ref 80, .int 0, .int (-1), .int 0]),
  .inr (1, [.ref 3, .int 0, .ref 4, .ref 5, .ref 6, .int 0, .int 0, .int 0, .int 0, .int 0]),
  .inl (2, 480, .inl (fun _ => 0)),
  .inl (0, 481, .inl (fun _ => 0)),
  .inl (0, 481, .inl (fun _ => 0)),
  .inl (0, 481, .inl (fun _ => 0)),
  .inr (2, [.null, .null, .int (-1)]),
  .inl (4, 9, .inr (.inr (.inr (.inr (fun _ => none))))),
  .inr (6, [.ref 10, .null, .null, .int 0, .int (-1), .ref 34, .int 0, .ref 35, .int 0, .ref 36, .ref 37, .int 0, .int 0, .int 0, .int 0]),
  .inr (5, [.ref 11, .ref 15, .int 48, .ref 16, .int 200, .ref 17, .int 0, .int 0, .int 0, .int 0, .int 0, .int 1, .int 0, .int (-1)]),
  .inr (3, [.ref 12, .ref 13, .ref 14, .int 0, .int 25, .int 0, .int 0]),
  .inl (1, 2000, .inr (.inl (fun _ => 0))),
  .inl (1, 2000, .inr (.inl (fun _ => 0))),
  .inl (1, 25, .inr (.inl (fun _ => 0))),
  .inl (1, 1200, .inr (.inl (fun _ => 0))),
  .inl (0, 1200, .inl (fun _ => 0)),
  .inl (5, 8, .inr (.inr (.inr (.inr (va_up (va_up (va_up (va_up (va_up (va_up (va_up (va_up (fun _ => none) 0 (some 18)) 1 (some 20)) 2 (some 22)) 3 (some 24)) 4 (some 26)) 5 (some 28)) 6 (some 30)) 7 (some 32)))))),
  .inr (4, [.ref 19, .int 0]),
  .inl (1, 26, .inr (.inl (fun _ => 0))),
  .inr (4, [.ref 21, .int 0]),
  .inl (1, 26, .inr (.inl (fun _ => 0))),
  .inr (4, [.ref 23, .int 0]),
  .inl (1, 26, .inr (.inl (fun _ => 0))),
  .inr (4, [.ref 25, .int 0]),
  .inl (1, 26, .inr (.inl (fun _ => 0))),
  .inr (4, [.ref 27, .int 0]),
  .inl (1, 26, .inr (.inl (fun _ => 0))),
  .inr (4, [.ref 29, .int 0]),
  .inl (1, 26, .inr (.inl (fun _ => 0))),
  .inr (4, [.ref 31, .int 0]),
  .inl (1, 26, .inr (.inl (fun _ => 0))),
  .inr (4, [.ref 33, .int 0]),
  .inl (1, 26, .inr (.inl (fun _ => 0))),
  .inl (5, 300, .inr (.inr (.inr (.inr (fun _ => none))))),
  .inl (6, 20, .inr (.inr (.inr (.inr (fun _ => none))))),
  .inl (0, 24, .inl (fun _ => 0)),
  .inl (5, 24, .inr (.inr (.inr (.inr (fun _ => none))))),
  .inr (7, [.ref 39, .ref 40, .ref 41, .ref 42, .null, .null, .int 0]),
  .inl (7, 8, .inr (.inr (.inr (.inr (fun _ => none))))),
  .inl (0, 8, .inl (fun _ => 0)),
  .inl (0, 8, .inl (fun _ => 0)),
  .inl (3, 8, .inl (fun _ => 0)),
  .inr (8, [.ref 44, .ref 45, .ref 46, .ref 47]),
  .inl (3, 6, .inl (fun _ => 0)),
  .inl (0, 6, .inl (fun _ => 0)),
  .inl (0, 240, .inl (fun _ => 0)),
  .inl (0, 4, .inl (fun _ => 0)),
  .inr (9, [.ref 49, .ref 50, .ref 51, .ref 52, .ref 53, .ref 54, .ref 55, .int 0, .int 0, .int 0, .int 0, .int 0, .int (-1), .null]),
  .inl (0, 600, .inl (fun _ => 0)),
  .inl (0, 200, .inl (fun _ => 0)),
  .inl (0, 600, .inl (fun _ => 0)),
  .inl (0, 60, .inl (fun _ => 0)),
  .inl (0, 60, .inl (fun _ => 0)),
  .inl (0, 100, .inl (fun _ => 0)),
  .inl (0, 8, .inl (fun _ => 0)),
  .inr (5, [.ref 57, .ref 61, .int 40, .ref 62, .int 0, .ref 63, .int 0, .int 0, .int 0, .int 0, .int 0, .int 1, .int 0, .int (-1)]),
  .inr (3, [.ref 58, .ref 59, .ref 60, .int 0, .int 25, .int 0, .int 0]),
  .inl (1, 2000, .inr (.inl (fun _ => 0))),
  .inl (1, 2000, .inr (.inl (fun _ => 0))),
  .inl (1, 25, .inr (.inl (fun _ => 0))),
  .inl (1, 1000, .inr (.inl (fun _ => 0))),
  .inl (0, 0, .inl (fun _ => 0)),
  .inl (5, 8, .inr (.inr (.inr (.inr (va_up (va_up (va_up (va_up (va_up (va_up (va_up (va_up (fun _ => none) 0 (some 64)) 1 (some 66)) 2 (some 68)) 3 (some 70)) 4 (some 72)) 5 (some 74)) 6 (some 76)) 7 (some 78)))))),
  .inr (4, [.ref 65, .int 0]),
  .inl (1, 26, .inr (.inl (fun _ => 0))),
  .inr (4, [.ref 67, .int 0]),
  .inl (1, 26, .inr (.inl (fun _ => 0))),
  .inr (4, [.ref 69, .int 0]),
  .inl (1, 26, .inr (.inl (fun _ => 0))),
  .inr (4, [.ref 71, .int 0]),
  .inl (1, 26, .inr (.inl (fun _ => 0))),
  .inr (4, [.ref 73, .int 0]),
  .inl (1, 26, .inr (.inl (fun _ => 0))),
  .inr (4, [.ref 75, .int 0]),
  .inl (1, 26, .inr (.inl (fun _ => 0))),
  .inr (4, [.ref 77, .int 0]),
  .inl (1, 26, .inr (.inl (fun _ => 0))),
  .inr (4, [.ref 79, .int 0]),
  .inl (1, 26, .inr (.inl (fun _ => 0))),
  .inr (4, [.ref 81, .int 0]),
  .inl (1, 26, .inr (.inl (fun _ => 0))),
  .inr (12, [.int 0, .ref 83, .int 0, .ref 84, .ref 85, .ref 86, .int 0, .int (-1), .int 0, .int 0, .int 0, .ref 87, .ref 88, .ref 89, .ref 90, .ref 91, .ref 92, .ref 93, .ref 94, .ref 95, .ref 96, .int 0, .ref 97, .ref 98, .ref 99, .ref 100, .ref 101, .ref 102, .ref 103, .ref 104, .int 0, .ref 105, .ref 106, .ref 107, .int 0, .ref 108, .ref 109, .ref 110, .int 0, .ref 111, .ref 112, .ref 113, .int 0, .ref 114, .ref 115, .ref 116, .ref 117, .ref 118, .int 0, .ref 119, .int 0, .int 0, .ref 120, .ref 121, .ref 122, .ref 123, .ref 124, .ref 125, .ref 126, .ref 127, .ref 128, .int 0, .int 0, .int 0, .int 0, .int 0, .int (-1), .int 0, .ref 129, .ref 130, .ref 131, .ref 132, .ref 133, .ref 134, .int 0, .int 0, .int 0, .int 0, .ref 135, .int 0, .ref 136, .ref 137, .ref 138, .int 0, .ref 139, .ref 140, .ref 141, .ref 142, .ref 143, .ref 144, .int 0, .int 0, .int 0, .long 0, .int (-1), .int (-1), .int 0, .ref 145, .int 0, .ref 146, .ref 147, .int 0, .int 0, .ref 148, .ref 149, .ref 150, .ref 151, .ref 152, .ref 153, .ref 154, .ref 155, .ref 156, .int 0, .int 0, .ref 157, .ref 158, .ref 159, .ref 160, .int 0, .int 0, .ref 161, .ref 162, .ref 163, .ref 164, .ref 165, .ref 166, .int 0, .ref 167, .int 0, .int 0, .ref 168, .ref 169, .ref 170, .ref 171, .int 0, .int 0, .int 0, .int (-1), .int 0, .int 0, .int 0, .int 0, .ref 172, .int 0, .ref 173]),
  .inl (2, 480, .inl (fun _ => 0)),
  .inl (0, 482, .inl (fun _ => 0)),
  .inl (0, 482, .inl (fun _ => 0)),
  .inl (0, 482, .inl (fun _ => 0)),
  .inl (0, 9, .inl (fun _ => 0)),
  .inl (0, 36, .inl (fun _ => 0)),
  .inl (0, 9, .inl (fun _ => 0)),
  .inl (0, 9, .inl (fun _ => 0)),
  .inl (0, 9, .inl (fun _ => 0)),
  .inl (0, 45, .inl (fun _ => 0)),
  .inl (0, 45, .inl (fun _ => 0)),
  .inl (0, 9, .inl (fun _ => 0)),
  .inl (0, 9, .inl (fun _ => 0)),
  .inl (0, 9, .inl (fun _ => 0)),
  .inl (0, 6300, .inl (fun _ => 0)),
  .inl (0, 6300, .inl (fun _ => 0)),
  .inl (0, 6300, .inl (fun _ => 0)),
  .inl (0, 6300, .inl (fun _ => 0)),
  .inl (0, 6300, .inl (fun _ => 0)),
  .inl (0, 6300, .inl (fun _ => 0)),
  .inl (0, 6300, .inl (fun _ => 0)),
  .inl (3, 6300, .inl (fun _ => 0)),
  .inl (0, 4500, .inl (fun _ => 0)),
  .inl (0, 4500, .inl (fun _ => 0)),
  .inl (0, 4500, .inl (fun _ => 0)),
  .inl (0, 2340, .inl (fun _ => 0)),
  .inl (0, 2340, .inl (fun _ => 0)),
  .inl (0, 2340, .inl (fun _ => 0)),
  .inl (0, 1800, .inl (fun _ => 0)),
  .inl (0, 1800, .inl (fun _ => 0)),
  .inl (0, 1800, .inl (fun _ => 0)),
  .inl (0, 1440, .inl (fun _ => 0)),
  .inl (0, 1440, .inl (fun _ => 0)),
  .inl (0, 1440, .inl (fun _ => 0)),
  .inl (0, 1440, .inl (fun _ => 0)),
  .inl (0, 1440, .inl (fun _ => 0)),
  .inl (0, 2700, .inl (fun _ => 0)),
  .inl (0, 100, .inl (fun _ => 0)),
  .inl (0, 100, .inl (fun _ => 0)),
  .inl (0, 100, .inl (fun _ => 0)),
  .inl (0, 100, .inl (fun _ => 0)),
  .inl (0, 100, .inl (fun _ => 0)),
  .inl (0, 100, .inl (fun _ => 0)),
  .inl (0, 100, .inl (fun _ => 0)),
  .inl (0, 100, .inl (fun _ => 0)),
  .inl (0, 500, .inl (fun _ => 0)),
  .inl (0, 200, .inl (fun _ => 0)),
  .inl (0, 200, .inl (fun _ => 0)),
  .inl (0, 200, .inl (fun _ => 0)),
  .inl (3, 200, .inl (fun _ => 0)),
  .inl (0, 200, .inl (fun _ => 0)),
  .inl (0, 200, .inl (fun _ => 0)),
  .inl (1, 1200, .inr (.inl (fun _ => 0))),
  .inl (0, 24, .inl (fun _ => 0)),
  .inl (0, 24, .inl (fun _ => 0)),
  .inl (1, 600, .inr (.inl (fun _ => 0))),
  .inl (1, 7500, .inr (.inl (fun _ => 0))),
  .inl (3, 300, .inl (fun _ => 0)),
  .inl (1, 25, .inr (.inl (fun _ => 0))),
  .inl (1, 25, .inr (.inl (fun _ => 0))),
  .inl (1, 25, .inr (.inl (fun _ => 0))),
  .inl (1, 25, .inr (.inl (fun _ => 0))),
  .inl (1, 2100, .inr (.inl (fun _ => 0))),
  .inl (1, 2100, .inr (.inl (fun _ => 0))),
  .inl (1, 25, .inr (.inl (fun _ => 0))),
  .inl (0, 700, .inl (fun _ => 0)),
  .inl (0, 700, .inl (fun _ => 0)),
  .inl (0, 700, .inl (fun _ => 0)),
  .inl (0, 700, .inl (fun _ => 0)),
  .inl (0, 700, .inl (fun _ => 0)),
  .inl (0, 700, .inl (fun _ => 0)),
  .inl (0, 700, .inl (fun _ => 0)),
  .inl (0, 700, .inl (fun _ => 0)),
  .inl (0, 700, .inl (fun _ => 0)),
  .inl (0, 8, .inl (fun _ => 0)),
  .inl (0, 9600, .inl (fun _ => 0)),
  .inl (0, 9600, .inl (fun _ => 0)),
  .inl (3, 9600, .inl (fun _ => 0)),
  .inl (0, 16, .inl (fun _ => 0)),
  .inl (3, 6, .inl (fun _ => 0)),
  .inl (0, 6, .inl (fun _ => 0)),
  .inl (0, 240, .inl (fun _ => 0)),
  .inl (0, 4, .inl (fun _ => 0)),
  .inl (0, 600, .inl (fun _ => 0)),
  .inl (0, 200, .inl (fun _ => 0)),
  .inl (0, 60, .inl (fun _ => 0)),
  .inl (0, 60, .inl (fun _ => 0)),
  .inl (0, 960, .inl (fun _ => 0)),
  .inl (0, 100, .inl (fun _ => 0)),
  .inl (0, 5, .inl (fun _ => 0)),
  .inl (1, 1000, .inr (.inl (fun _ => 0))),
  .inl (1, 1, .inr (.inl (fun _ => 0)))]
def tb_LS : List (Nat × Value) := [(4, .int 0), (3, .ref 174), (2, .ref 82), (1, .ref 1), (0, .ref 0)]
def tb_Q : mm_K := fun o _ _ => o = .inl (some (.int 1))
theorem mm_to {P : mm_P} {Ln : Nat} {xs : Nat → Int32} {call : mm_Call} {k n pc pc' sl sl' : Nat} {ls ls' : List (Nat × Value)} {st st' : List Value} {g g' : List va_E} {Q : mm_K} (h : mm_wE P Ln xs call k n pc' ls' st' g' sl' Q) (e1 : pc = pc') (e2 : ls = ls') (e3 : st = st') (e4 : g = g') (e5 : sl = sl') : mm_fn pc (fun pc => mm_fls ls (fun ls => mm_fs st (fun st => mm_wE P Ln xs call k n pc ls st g sl Q))) := by
  subst e1 e2 e3 e4 e5
  rw [mm_fn_eq, mm_fls_eq, mm_fs_eq]
  exact h
set_option maxRecDepth 100000 in
set_option maxHeartbeats 40000000 in
theorem law_init {L : Nat} {xs : Nat → Int32} (h1 : Int32.ofNat L - 6 < 0 → mm_wE tb_P L xs (mm_callE tb_P L xs 99) 0 381 1200 tb_LS [] tb_G 159584 tb_Q) (h2 : ¬ Int32.ofNat L - 6 < 0 → mm_wE tb_P L xs (mm_callE tb_P L xs 99) 0 381 33 tb_LS [] tb_G 159584 tb_Q) : mm_callE tb_P L xs 100 0 [.ref 0] [] 0 tb_Q := by
  refine Exists.intro 400 ?_
  conv => whnf
  repeat (first | (refine And.intro (by first | decide | (unfold vp_in; decide)) ?_; conv => whnf) | (refine Exists.intro 3000 ?_; conv => whnf) | (refine br_t (by decide) ?_; conv => whnf) | (refine br_f (by decide) ?_; conv => whnf))
  refine And.intro (fun h => ?_) (fun h => ?_)
  · exact mm_to (h1 h) rfl rfl rfl rfl rfl
  · exact mm_to (h2 h) rfl rfl rfl rfl rfl
end
section
/-! what constants are worth, as whole numbers -/
theorem mm_k0 : (Int64.ofNat ((0 : Fin 2) : Nat)).toInt = 0 := rfl
theorem mm_k1 : (Int64.ofNat ((1 : Fin 2) : Nat)).toInt = 1 := rfl
theorem mm_K0 : (-1 : Int32).toInt = -1 ∧ (-1000 : Int64).toInt = -1000 ∧ (-1000000 : Int64).toInt = -1000000 ∧ (-1000000000 : Int32).toInt = -1000000000 ∧ (-1000000000 : Int64).toInt = -1000000000 ∧ (0 : Int32).toInt = 0 ∧ (0 : Int64).toInt = 0 ∧ (1 : Int32).toInt = 1 ∧ (1 : Int64).toInt = 1 ∧ (1000 : Int64).toInt = 1000 ∧ (1000000 : Int32).toInt = 1000000 ∧ (1000000 : Int64).toInt = 1000000 ∧ (1000000000 : Int32).toInt = 1000000000 ∧ (1000000000 : Int64).toInt = 1000000000 ∧ (20000 : Int64).toInt = 20000 ∧ (3 : Int64).toInt = 3 ∧ (40 : Int64).toInt = 40 ∧ (5 : Int64).toInt = 5 ∧ (7 : Int64).toInt = 7 ∧ (Int16.ofInt 1000).toInt32.toInt = 1000 ∧ (Int16.ofInt 1200).toInt32.toInt = 1200 ∧ (Int16.ofInt 128).toInt32.toInt = 128 ∧ (Int16.ofInt 129).toInt32.toInt = 129 ∧ (Int16.ofInt 130).toInt32.toInt = 130 ∧ (Int16.ofInt 1440).toInt32.toInt = 1440 ∧ (Int16.ofInt 160).toInt32.toInt = 160 ∧ (Int16.ofInt 1800).toInt32.toInt = 1800 ∧ (Int16.ofInt 200).toInt32.toInt = 200 ∧ (Int16.ofInt 2000).toInt32.toInt = 2000 ∧ (Int16.ofInt 20000).toInt32.toInt = 20000 ∧ (Int16.ofInt 2100).toInt32.toInt = 2100 ∧ (Int16.ofInt 2340).toInt32.toInt = 2340 ∧ (Int16.ofInt 240).toInt32.toInt = 240 ∧ (Int16.ofInt 255).toInt32.toInt = 255 ∧ (Int16.ofInt 260).toInt32.toInt = 260 ∧ (Int16.ofInt 2700).toInt32.toInt = 2700 ∧ (Int16.ofInt 300).toInt32.toInt = 300 ∧ (Int16.ofInt 4500).toInt32.toInt = 4500 ∧ (Int16.ofInt 480).toInt32.toInt = 480 ∧ (Int16.ofInt 481).toInt32.toInt = 481 := ⟨rfl, rfl, rfl, rfl, rfl, rfl, rfl, rfl, rfl, rfl, rfl, rfl, rfl, rfl, rfl, rfl, rfl, rfl, rfl, rfl, rfl, rfl, rfl, rfl, rfl, rfl, rfl, rfl, rfl, rfl, rfl, rfl, rfl, rfl, rfl, rfl, rfl, rfl, rfl, rfl⟩
theorem mm_K1 : (Int16.ofInt 482).toInt32.toInt = 482 ∧ (Int16.ofInt 4955).toInt32.toInt = 4955 ∧ (Int16.ofInt 500).toInt32.toInt = 500 ∧ (Int16.ofInt 600).toInt32.toInt = 600 ∧ (Int16.ofInt 6300).toInt32.toInt = 6300 ∧ (Int16.ofInt 6830).toInt32.toInt = 6830 ∧ (Int16.ofInt 700).toInt32.toInt = 700 ∧ (Int16.ofInt 7500).toInt32.toInt = 7500 ∧ (Int16.ofInt 960).toInt32.toInt = 960 ∧ (Int16.ofInt 9600).toInt32.toInt = 9600 ∧ (Int32.ofInt (-1)).toInt = (-1) ∧ (Int32.ofInt 0).toInt = 0 ∧ (Int32.ofInt 1).toInt = 1 ∧ (Int32.ofInt 2).toInt = 2 ∧ (Int32.ofInt 3).toInt = 3 ∧ (Int32.ofInt 4).toInt = 4 ∧ (Int32.ofInt 5).toInt = 5 ∧ (Int8.ofInt (-10)).toInt32.toInt = (-10) ∧ (Int8.ofInt (-2)).toInt32.toInt = (-2) ∧ (Int8.ofInt (-3)).toInt32.toInt = (-3) ∧ (Int8.ofInt (-4)).toInt32.toInt = (-4) ∧ (Int8.ofInt (-8)).toInt32.toInt = (-8) ∧ (Int8.ofInt (-9)).toInt32.toInt = (-9) ∧ (Int8.ofInt 10).toInt32.toInt = 10 ∧ (Int8.ofInt 100).toInt32.toInt = 100 ∧ (Int8.ofInt 123).toInt32.toInt = 123 ∧ (Int8.ofInt 16).toInt32.toInt = 16 ∧ (Int8.ofInt 20).toInt32.toInt = 20 ∧ (Int8.ofInt 22).toInt32.toInt = 22 ∧ (Int8.ofInt 23).toInt32.toInt = 23 ∧ (Int8.ofInt 24).toInt32.toInt = 24 ∧ (Int8.ofInt 25).toInt32.toInt = 25 ∧ (Int8.ofInt 26).toInt32.toInt = 26 ∧ (Int8.ofInt 27).toInt32.toInt = 27 ∧ (Int8.ofInt 31).toInt32.toInt = 31 ∧ (Int8.ofInt 32).toInt32.toInt = 32 ∧ (Int8.ofInt 36).toInt32.toInt = 36 ∧ (Int8.ofInt 40).toInt32.toInt = 40 ∧ (Int8.ofInt 41).toInt32.toInt = 41 ∧ (Int8.ofInt 45).toInt32.toInt = 45 := ⟨rfl, rfl, rfl, rfl, rfl, rfl, rfl, rfl, rfl, rfl, rfl, rfl, rfl, rfl, rfl, rfl, rfl, rfl, rfl, rfl, rfl, rfl, rfl, rfl, rfl, rfl, rfl, rfl, rfl, rfl, rfl, rfl, rfl, rfl, rfl, rfl, rfl, rfl, rfl, rfl⟩
theorem mm_K2 : (Int8.ofInt 48).toInt32.toInt = 48 ∧ (Int8.ofInt 58).toInt32.toInt = 58 ∧ (Int8.ofInt 6).toInt32.toInt = 6 ∧ (Int8.ofInt 60).toInt32.toInt = 60 ∧ (Int8.ofInt 61).toInt32.toInt = 61 ∧ (Int8.ofInt 62).toInt32.toInt = 62 ∧ (Int8.ofInt 7).toInt32.toInt = 7 ∧ (Int8.ofInt 8).toInt32.toInt = 8 ∧ (Int8.ofInt 80).toInt32.toInt = 80 ∧ (Int8.ofInt 9).toInt32.toInt = 9 ∧ (Int8.ofInt 97).toInt32.toInt = 97 := ⟨rfl, rfl, rfl, rfl, rfl, rfl, rfl, rfl, rfl, rfl, rfl⟩
--  3
theorem mm_x0 : ((0 : Int32) - Int32.ofInt 1).toInt = -1 := rfl
end
section
set_option maxRecDepth 100000 in
theorem law_short {L : Nat} {xs : Nat → Int32} : mm_wE tb_P L xs (mm_callE tb_P L xs 99) 0 381 1200 tb_LS [] tb_G 159584 tb_Q := by
  conv => whnf
  exact ⟨rfl, rfl⟩
set_option maxRecDepth 100000 in
set_option maxHeartbeats 40000000 in
theorem c_other {xs : Nat → Int32} : mm_wE tb_P 6 xs (mm_callE tb_P 6 xs 99) 0 375 1194 tb_LS [] tb_G 159584 tb_Q := by
  conv => whnf
  repeat (first | (refine And.intro (by first | decide | (unfold vp_in; decide)) ?_; conv => whnf) | (refine Exists.intro 3000 ?_; conv => whnf) | (refine br_t (by decide) ?_; conv => whnf) | (refine br_f (by decide) ?_; conv => whnf))
  exact rfl
set_option maxRecDepth 100000 in
set_option maxHeartbeats 40000000 in
theorem c_erase {xs : Nat → Int32} : mm_wE tb_P 6 xs (mm_callE tb_P 6 xs 99) 0 375 240 tb_LS [] tb_G 159584 tb_Q := by
  conv => whnf
  repeat (first | (refine And.intro (by first | decide | (unfold vp_in; decide)) ?_; conv => whnf) | (refine Exists.intro 3000 ?_; conv => whnf) | (refine br_t (by decide) ?_; conv => whnf) | (refine br_f (by decide) ?_; conv => whnf))
  exact rfl
set_option maxRecDepth 100000 in
set_option maxHeartbeats 40000000 in
theorem c_define {xs : Nat → Int32} : mm_wE tb_P 6 xs (mm_callE tb_P 6 xs 99) 0 375 253 tb_LS [] tb_G 159584 tb_Q := by
  conv => whnf
  repeat (first | (refine And.intro (by first | decide | (unfold vp_in; decide)) ?_; conv => whnf) | (refine Exists.intro 3000 ?_; conv => whnf) | (refine br_t (by decide) ?_; conv => whnf) | (refine br_f (by decide) ?_; conv => whnf))
  exact rfl
set_option maxRecDepth 100000 in
set_option maxHeartbeats 40000000 in
theorem c_clear {xs : Nat → Int32} : mm_wE tb_P 6 xs (mm_callE tb_P 6 xs 99) 0 375 266 tb_LS [] tb_G 159584 tb_Q := by
  conv => whnf
  repeat (first | (refine And.intro (by first | decide | (unfold vp_in; decide)) ?_; conv => whnf) | (refine Exists.intro 3000 ?_; conv => whnf) | (refine br_t (by decide) ?_; conv => whnf) | (refine br_f (by decide) ?_; conv => whnf))
  exact rfl
set_option maxRecDepth 100000 in
set_option maxHeartbeats 40000000 in
theorem c_check {xs : Nat → Int32} : mm_wE tb_P 6 xs (mm_callE tb_P 6 xs 99) 0 375 279 tb_LS [] tb_G 159584 tb_Q := by
  conv => whnf
  repeat (first | (refine And.intro (by first | decide | (unfold vp_in; decide)) ?_; conv => whnf) | (refine Exists.intro 3000 ?_; conv => whnf) | (refine br_t (by decide) ?_; conv => whnf) | (refine br_f (by decide) ?_; conv => whnf))
  exact rfl
set_option maxRecDepth 100000 in
set_option maxHeartbeats 40000000 in
theorem c_place {xs : Nat → Int32} : mm_wE tb_P 6 xs (mm_callE tb_P 6 xs 99) 0 375 292 tb_LS [] tb_G 159584 tb_Q := by
  conv => whnf
  repeat (first | (refine And.intro (by first | decide | (unfold vp_in; decide)) ?_; conv => whnf) | (refine Exists.intro 3000 ?_; conv => whnf) | (refine br_t (by decide) ?_; conv => whnf) | (refine br_f (by decide) ?_; conv => whnf))
  exact rfl
set_option maxRecDepth 100000 in
set_option maxHeartbeats 40000000 in
theorem c_forget {xs : Nat → Int32} : mm_wE tb_P 6 xs (mm_callE tb_P 6 xs 99) 0 375 1181 tb_LS [] tb_G 159584 tb_Q := by
  conv => whnf
  repeat (first | (refine And.intro (by first | decide | (unfold vp_in; decide)) ?_; conv => whnf) | (refine Exists.intro 3000 ?_; conv => whnf) | (refine br_t (by decide) ?_; conv => whnf) | (refine br_f (by decide) ?_; conv => whnf))
  exact rfl
end
section
set_option maxRecDepth 100000 in
set_option maxHeartbeats 40000000 in
theorem c_count {xs : Nat → Int32} : mm_wE tb_P 6 xs (mm_callE tb_P 6 xs 99) 0 375 305 tb_LS [] tb_G 159584 tb_Q := by
  conv => whnf
  repeat' (first
    | exact rfl
    | (refine br_t (by first | decide | (((try simp only [lg_cmp_ge, lg_cmp_le, lg_cmp_gt, lg_cmp_lt, lg_cmp_eq]) <;> (try simp only [Int32.lt_iff_toInt_lt, Int32.le_iff_toInt_le, ← Int32.toInt_inj, Int64.lt_iff_toInt_lt, Int64.le_iff_toInt_le, ← Int64.toInt_inj, ← Int32.toNat_toInt, mm_k0, mm_k1, mm_K0, mm_K1, mm_K2, Int32.toInt_toInt64, List.length_cons, List.length_nil, vp_updL, upd, ↓reduceIte, not_true_eq_false, not_false_eq_true, mm_x0]) <;> omega)) | fail) ?_; conv => whnf)
    | (refine br_f (by first | decide | (((try simp only [lg_cmp_ge, lg_cmp_le, lg_cmp_gt, lg_cmp_lt, lg_cmp_eq]) <;> (try simp only [Int32.lt_iff_toInt_lt, Int32.le_iff_toInt_le, ← Int32.toInt_inj, Int64.lt_iff_toInt_lt, Int64.le_iff_toInt_le, ← Int64.toInt_inj, ← Int32.toNat_toInt, mm_k0, mm_k1, mm_K0, mm_K1, mm_K2, Int32.toInt_toInt64, List.length_cons, List.length_nil, vp_updL, upd, ↓reduceIte, not_true_eq_false, not_false_eq_true, mm_x0]) <;> omega)) | fail) ?_; conv => whnf)
    | (refine And.intro (by first | decide | (unfold vp_in; decide) | (((try unfold vp_in) <;> (try simp only [lg_cmp_ge, lg_cmp_le, lg_cmp_gt, lg_cmp_lt, lg_cmp_eq]) <;> (try simp only [Int32.lt_iff_toInt_lt, Int32.le_iff_toInt_le, ← Int32.toInt_inj, Int64.lt_iff_toInt_lt, Int64.le_iff_toInt_le, ← Int64.toInt_inj, ← Int32.toNat_toInt, mm_k0, mm_k1, mm_K0, mm_K1, mm_K2, Int32.toInt_toInt64, List.length_cons, List.length_nil, vp_updL, upd, ↓reduceIte, not_true_eq_false, not_false_eq_true, mm_x0]) <;> omega)) | fail) ?_; conv => whnf)
    | (refine Exists.intro 3000 ?_; conv => whnf)
    | (refine And.intro (fun h => absurd h (by first | decide | (((try simp only [lg_cmp_ge, lg_cmp_le, lg_cmp_gt, lg_cmp_lt, lg_cmp_eq]) <;> (try simp only [Int32.lt_iff_toInt_lt, Int32.le_iff_toInt_le, ← Int32.toInt_inj, Int64.lt_iff_toInt_lt, Int64.le_iff_toInt_le, ← Int64.toInt_inj, ← Int32.toNat_toInt, mm_k0, mm_k1, mm_K0, mm_K1, mm_K2, Int32.toInt_toInt64, List.length_cons, List.length_nil, vp_updL, upd, ↓reduceIte, not_true_eq_false, not_false_eq_true, mm_x0]) <;> omega)) | fail)) ?_; conv => whnf)
    | (refine And.intro (fun h => ?_) (fun h => ?_) <;> (try simp only [lg_cmp_ge, lg_cmp_le, lg_cmp_gt, lg_cmp_lt, lg_cmp_eq] at h) <;> (try simp only [Int32.lt_iff_toInt_lt, Int32.le_iff_toInt_le, ← Int32.toInt_inj, Int64.lt_iff_toInt_lt, Int64.le_iff_toInt_le, ← Int64.toInt_inj, ← Int32.toNat_toInt, mm_k0, mm_k1, mm_K0, mm_K1, mm_K2, Int32.toInt_toInt64, List.length_cons, List.length_nil, vp_updL, upd, ↓reduceIte, not_true_eq_false, not_false_eq_true, mm_x0] at h) <;> conv => whnf)
    | (refine And.intro (fun h => ?_) ?_ <;> (try simp only [lg_cmp_ge, lg_cmp_le, lg_cmp_gt, lg_cmp_lt, lg_cmp_eq] at h) <;> (try simp only [Int32.lt_iff_toInt_lt, Int32.le_iff_toInt_le, ← Int32.toInt_inj, Int64.lt_iff_toInt_lt, Int64.le_iff_toInt_le, ← Int64.toInt_inj, ← Int32.toNat_toInt, mm_k0, mm_k1, mm_K0, mm_K1, mm_K2, Int32.toInt_toInt64, List.length_cons, List.length_nil, vp_updL, upd, ↓reduceIte, not_true_eq_false, not_false_eq_true, mm_x0] at h) <;> conv => whnf)
    | exact trivial)
set_option maxRecDepth 100000 in
set_option maxHeartbeats 40000000 in
theorem c_goal {xs : Nat → Int32} : mm_wE tb_P 6 xs (mm_callE tb_P 6 xs 99) 0 375 361 tb_LS [] tb_G 159584 tb_Q := by
  conv => whnf
  repeat' (first
    | exact rfl
    | (refine br_t (by first | decide | (((try simp only [lg_cmp_ge, lg_cmp_le, lg_cmp_gt, lg_cmp_lt, lg_cmp_eq]) <;> (try simp only [Int32.lt_iff_toInt_lt, Int32.le_iff_toInt_le, ← Int32.toInt_inj, Int64.lt_iff_toInt_lt, Int64.le_iff_toInt_le, ← Int64.toInt_inj, ← Int32.toNat_toInt, mm_k0, mm_k1, mm_K0, mm_K1, mm_K2, Int32.toInt_toInt64, List.length_cons, List.length_nil, vp_updL, upd, ↓reduceIte, not_true_eq_false, not_false_eq_true, mm_x0]) <;> omega)) | fail) ?_; conv => whnf)
    | (refine br_f (by first | decide | (((try simp only [lg_cmp_ge, lg_cmp_le, lg_cmp_gt, lg_cmp_lt, lg_cmp_eq]) <;> (try simp only [Int32.lt_iff_toInt_lt, Int32.le_iff_toInt_le, ← Int32.toInt_inj, Int64.lt_iff_toInt_lt, Int64.le_iff_toInt_le, ← Int64.toInt_inj, ← Int32.toNat_toInt, mm_k0, mm_k1, mm_K0, mm_K1, mm_K2, Int32.toInt_toInt64, List.length_cons, List.length_nil, vp_updL, upd, ↓reduceIte, not_true_eq_false, not_false_eq_true, mm_x0]) <;> omega)) | fail) ?_; conv => whnf)
    | (refine And.intro (by first | decide | (unfold vp_in; decide) | (((try unfold vp_in) <;> (try simp only [lg_cmp_ge, lg_cmp_le, lg_cmp_gt, lg_cmp_lt, lg_cmp_eq]) <;> (try simp only [Int32.lt_iff_toInt_lt, Int32.le_iff_toInt_le, ← Int32.toInt_inj, Int64.lt_iff_toInt_lt, Int64.le_iff_toInt_le, ← Int64.toInt_inj, ← Int32.toNat_toInt, mm_k0, mm_k1, mm_K0, mm_K1, mm_K2, Int32.toInt_toInt64, List.length_cons, List.length_nil, vp_updL, upd, ↓reduceIte, not_true_eq_false, not_false_eq_true, mm_x0]) <;> omega)) | fail) ?_; conv => whnf)
    | (refine Exists.intro 3000 ?_; conv => whnf)
    | (refine And.intro (fun h => absurd h (by first | decide | (((try simp only [lg_cmp_ge, lg_cmp_le, lg_cmp_gt, lg_cmp_lt, lg_cmp_eq]) <;> (try simp only [Int32.lt_iff_toInt_lt, Int32.le_iff_toInt_le, ← Int32.toInt_inj, Int64.lt_iff_toInt_lt, Int64.le_iff_toInt_le, ← Int64.toInt_inj, ← Int32.toNat_toInt, mm_k0, mm_k1, mm_K0, mm_K1, mm_K2, Int32.toInt_toInt64, List.length_cons, List.length_nil, vp_updL, upd, ↓reduceIte, not_true_eq_false, not_false_eq_true, mm_x0]) <;> omega)) | fail)) ?_; conv => whnf)
    | (refine And.intro (fun h => ?_) (fun h => ?_) <;> (try simp only [lg_cmp_ge, lg_cmp_le, lg_cmp_gt, lg_cmp_lt, lg_cmp_eq] at h) <;> (try simp only [Int32.lt_iff_toInt_lt, Int32.le_iff_toInt_le, ← Int32.toInt_inj, Int64.lt_iff_toInt_lt, Int64.le_iff_toInt_le, ← Int64.toInt_inj, ← Int32.toNat_toInt, mm_k0, mm_k1, mm_K0, mm_K1, mm_K2, Int32.toInt_toInt64, List.length_cons, List.length_nil, vp_updL, upd, ↓reduceIte, not_true_eq_false, not_false_eq_true, mm_x0] at h) <;> conv => whnf)
    | (refine And.intro (fun h => ?_) ?_ <;> (try simp only [lg_cmp_ge, lg_cmp_le, lg_cmp_gt, lg_cmp_lt, lg_cmp_eq] at h) <;> (try simp only [Int32.lt_iff_toInt_lt, Int32.le_iff_toInt_le, ← Int32.toInt_inj, Int64.lt_iff_toInt_lt, Int64.le_iff_toInt_le, ← Int64.toInt_inj, ← Int32.toNat_toInt, mm_k0, mm_k1, mm_K0, mm_K1, mm_K2, Int32.toInt_toInt64, List.length_cons, List.length_nil, vp_updL, upd, ↓reduceIte, not_true_eq_false, not_false_eq_true, mm_x0] at h) <;> conv => whnf)
    | exact trivial)
set_option maxRecDepth 100000 in
set_option maxHeartbeats 40000000 in
theorem c_code {xs : Nat → Int32} : mm_wE tb_P 6 xs (mm_callE tb_P 6 xs 99) 0 375 429 tb_LS [] tb_G 159584 tb_Q := by
  conv => whnf
  repeat' (first
    | exact rfl
    | (refine br_t (by first | decide | (((try simp only [lg_cmp_ge, lg_cmp_le, lg_cmp_gt, lg_cmp_lt, lg_cmp_eq]) <;> (try simp only [Int32.lt_iff_toInt_lt, Int32.le_iff_toInt_le, ← Int32.toInt_inj, Int64.lt_iff_toInt_lt, Int64.le_iff_toInt_le, ← Int64.toInt_inj, ← Int32.toNat_toInt, mm_k0, mm_k1, mm_K0, mm_K1, mm_K2, Int32.toInt_toInt64, List.length_cons, List.length_nil, vp_updL, upd, ↓reduceIte, not_true_eq_false, not_false_eq_true, mm_x0]) <;> omega)) | fail) ?_; conv => whnf)
    | (refine br_f (by first | decide | (((try simp only [lg_cmp_ge, lg_cmp_le, lg_cmp_gt, lg_cmp_lt, lg_cmp_eq]) <;> (try simp only [Int32.lt_iff_toInt_lt, Int32.le_iff_toInt_le, ← Int32.toInt_inj, Int64.lt_iff_toInt_lt, Int64.le_iff_toInt_le, ← Int64.toInt_inj, ← Int32.toNat_toInt, mm_k0, mm_k1, mm_K0, mm_K1, mm_K2, Int32.toInt_toInt64, List.length_cons, List.length_nil, vp_updL, upd, ↓reduceIte, not_true_eq_false, not_false_eq_true, mm_x0]) <;> omega)) | fail) ?_; conv => whnf)
    | (refine And.intro (by first | decide | (unfold vp_in; decide) | (((try unfold vp_in) <;> (try simp only [lg_cmp_ge, lg_cmp_le, lg_cmp_gt, lg_cmp_lt, lg_cmp_eq]) <;> (try simp only [Int32.lt_iff_toInt_lt, Int32.le_iff_toInt_le, ← Int32.toInt_inj, Int64.lt_iff_toInt_lt, Int64.le_iff_toInt_le, ← Int64.toInt_inj, ← Int32.toNat_toInt, mm_k0, mm_k1, mm_K0, mm_K1, mm_K2, Int32.toInt_toInt64, List.length_cons, List.length_nil, vp_updL, upd, ↓reduceIte, not_true_eq_false, not_false_eq_true, mm_x0]) <;> omega)) | fail) ?_; conv => whnf)
    | (refine Exists.intro 3000 ?_; conv => whnf)
    | (refine And.intro (fun h => absurd h (by first | decide | (((try simp only [lg_cmp_ge, lg_cmp_le, lg_cmp_gt, lg_cmp_lt, lg_cmp_eq]) <;> (try simp only [Int32.lt_iff_toInt_lt, Int32.le_iff_toInt_le, ← Int32.toInt_inj, Int64.lt_iff_toInt_lt, Int64.le_iff_toInt_le, ← Int64.toInt_inj, ← Int32.toNat_toInt, mm_k0, mm_k1, mm_K0, mm_K1, mm_K2, Int32.toInt_toInt64, List.length_cons, List.length_nil, vp_updL, upd, ↓reduceIte, not_true_eq_false, not_false_eq_true, mm_x0]) <;> omega)) | fail)) ?_; conv => whnf)
    | (refine And.intro (fun h => ?_) (fun h => ?_) <;> (try simp only [lg_cmp_ge, lg_cmp_le, lg_cmp_gt, lg_cmp_lt, lg_cmp_eq] at h) <;> (try simp only [Int32.lt_iff_toInt_lt, Int32.le_iff_toInt_le, ← Int32.toInt_inj, Int64.lt_iff_toInt_lt, Int64.le_iff_toInt_le, ← Int64.toInt_inj, ← Int32.toNat_toInt, mm_k0, mm_k1, mm_K0, mm_K1, mm_K2, Int32.toInt_toInt64, List.length_cons, List.length_nil, vp_updL, upd, ↓reduceIte, not_true_eq_false, not_false_eq_true, mm_x0] at h) <;> conv => whnf)
    | (refine And.intro (fun h => ?_) ?_ <;> (try simp only [lg_cmp_ge, lg_cmp_le, lg_cmp_gt, lg_cmp_lt, lg_cmp_eq] at h) <;> (try simp only [Int32.lt_iff_toInt_lt, Int32.le_iff_toInt_le, ← Int32.toInt_inj, Int64.lt_iff_toInt_lt, Int64.le_iff_toInt_le, ← Int64.toInt_inj, ← Int32.toNat_toInt, mm_k0, mm_k1, mm_K0, mm_K1, mm_K2, Int32.toInt_toInt64, List.length_cons, List.length_nil, vp_updL, upd, ↓reduceIte, not_true_eq_false, not_false_eq_true, mm_x0] at h) <;> conv => whnf)
    | exact trivial)
set_option maxRecDepth 100000 in
set_option maxHeartbeats 40000000 in
theorem c_set {xs : Nat → Int32} : mm_wE tb_P 6 xs (mm_callE tb_P 6 xs 99) 0 375 509 tb_LS [] tb_G 159584 tb_Q := by
  conv => whnf
  repeat' (first
    | exact rfl
    | (refine br_t (by first | decide | (((try simp only [lg_cmp_ge, lg_cmp_le, lg_cmp_gt, lg_cmp_lt, lg_cmp_eq]) <;> (try simp only [Int32.lt_iff_toInt_lt, Int32.le_iff_toInt_le, ← Int32.toInt_inj, Int64.lt_iff_toInt_lt, Int64.le_iff_toInt_le, ← Int64.toInt_inj, ← Int32.toNat_toInt, mm_k0, mm_k1, mm_K0, mm_K1, mm_K2, Int32.toInt_toInt64, List.length_cons, List.length_nil, vp_updL, upd, ↓reduceIte, not_true_eq_false, not_false_eq_true, mm_x0]) <;> omega)) | fail) ?_; conv => whnf)
    | (refine br_f (by first | decide | (((try simp only [lg_cmp_ge, lg_cmp_le, lg_cmp_gt, lg_cmp_lt, lg_cmp_eq]) <;> (try simp only [Int32.lt_iff_toInt_lt, Int32.le_iff_toInt_le, ← Int32.toInt_inj, Int64.lt_iff_toInt_lt, Int64.le_iff_toInt_le, ← Int64.toInt_inj, ← Int32.toNat_toInt, mm_k0, mm_k1, mm_K0, mm_K1, mm_K2, Int32.toInt_toInt64, List.length_cons, List.length_nil, vp_updL, upd, ↓reduceIte, not_true_eq_false, not_false_eq_true, mm_x0]) <;> omega)) | fail) ?_; conv => whnf)
    | (refine And.intro (by first | decide | (unfold vp_in; decide) | (((try unfold vp_in) <;> (try simp only [lg_cmp_ge, lg_cmp_le, lg_cmp_gt, lg_cmp_lt, lg_cmp_eq]) <;> (try simp only [Int32.lt_iff_toInt_lt, Int32.le_iff_toInt_le, ← Int32.toInt_inj, Int64.lt_iff_toInt_lt, Int64.le_iff_toInt_le, ← Int64.toInt_inj, ← Int32.toNat_toInt, mm_k0, mm_k1, mm_K0, mm_K1, mm_K2, Int32.toInt_toInt64, List.length_cons, List.length_nil, vp_updL, upd, ↓reduceIte, not_true_eq_false, not_false_eq_true, mm_x0]) <;> omega)) | fail) ?_; conv => whnf)
    | (refine Exists.intro 3000 ?_; conv => whnf)
    | (refine And.intro (fun h => absurd h (by first | decide | (((try simp only [lg_cmp_ge, lg_cmp_le, lg_cmp_gt, lg_cmp_lt, lg_cmp_eq]) <;> (try simp only [Int32.lt_iff_toInt_lt, Int32.le_iff_toInt_le, ← Int32.toInt_inj, Int64.lt_iff_toInt_lt, Int64.le_iff_toInt_le, ← Int64.toInt_inj, ← Int32.toNat_toInt, mm_k0, mm_k1, mm_K0, mm_K1, mm_K2, Int32.toInt_toInt64, List.length_cons, List.length_nil, vp_updL, upd, ↓reduceIte, not_true_eq_false, not_false_eq_true, mm_x0]) <;> omega)) | fail)) ?_; conv => whnf)
    | (refine And.intro (fun h => ?_) (fun h => ?_) <;> (try simp only [lg_cmp_ge, lg_cmp_le, lg_cmp_gt, lg_cmp_lt, lg_cmp_eq] at h) <;> (try simp only [Int32.lt_iff_toInt_lt, Int32.le_iff_toInt_le, ← Int32.toInt_inj, Int64.lt_iff_toInt_lt, Int64.le_iff_toInt_le, ← Int64.toInt_inj, ← Int32.toNat_toInt, mm_k0, mm_k1, mm_K0, mm_K1, mm_K2, Int32.toInt_toInt64, List.length_cons, List.length_nil, vp_updL, upd, ↓reduceIte, not_true_eq_false, not_false_eq_true, mm_x0] at h) <;> conv => whnf)
    | (refine And.intro (fun h => ?_) ?_ <;> (try simp only [lg_cmp_ge, lg_cmp_le, lg_cmp_gt, lg_cmp_lt, lg_cmp_eq] at h) <;> (try simp only [Int32.lt_iff_toInt_lt, Int32.le_iff_toInt_le, ← Int32.toInt_inj, Int64.lt_iff_toInt_lt, Int64.le_iff_toInt_le, ← Int64.toInt_inj, ← Int32.toNat_toInt, mm_k0, mm_k1, mm_K0, mm_K1, mm_K2, Int32.toInt_toInt64, List.length_cons, List.length_nil, vp_updL, upd, ↓reduceIte, not_true_eq_false, not_false_eq_true, mm_x0] at h) <;> conv => whnf)
    | exact trivial)
set_option maxRecDepth 100000 in
set_option maxHeartbeats 40000000 in
theorem c_value {xs : Nat → Int32} : mm_wE tb_P 6 xs (mm_callE tb_P 6 xs 99) 0 375 733 tb_LS [] tb_G 159584 tb_Q := by
  conv => whnf
  repeat' (first
    | exact rfl
    | (refine br_t (by first | decide | (((try simp only [lg_cmp_ge, lg_cmp_le, lg_cmp_gt, lg_cmp_lt, lg_cmp_eq]) <;> (try simp only [Int32.lt_iff_toInt_lt, Int32.le_iff_toInt_le, ← Int32.toInt_inj, Int64.lt_iff_toInt_lt, Int64.le_iff_toInt_le, ← Int64.toInt_inj, ← Int32.toNat_toInt, mm_k0, mm_k1, mm_K0, mm_K1, mm_K2, Int32.toInt_toInt64, List.length_cons, List.length_nil, vp_updL, upd, ↓reduceIte, not_true_eq_false, not_false_eq_true, mm_x0]) <;> omega)) | fail) ?_; conv => whnf)
    | (refine br_f (by first | decide | (((try simp only [lg_cmp_ge, lg_cmp_le, lg_cmp_gt, lg_cmp_lt, lg_cmp_eq]) <;> (try simp only [Int32.lt_iff_toInt_lt, Int32.le_iff_toInt_le, ← Int32.toInt_inj, Int64.lt_iff_toInt_lt, Int64.le_iff_toInt_le, ← Int64.toInt_inj, ← Int32.toNat_toInt, mm_k0, mm_k1, mm_K0, mm_K1, mm_K2, Int32.toInt_toInt64, List.length_cons, List.length_nil, vp_updL, upd, ↓reduceIte, not_true_eq_false, not_false_eq_true, mm_x0]) <;> omega)) | fail) ?_; conv => whnf)
    | (refine And.intro (by first | decide | (unfold vp_in; decide) | (((try unfold vp_in) <;> (try simp only [lg_cmp_ge, lg_cmp_le, lg_cmp_gt, lg_cmp_lt, lg_cmp_eq]) <;> (try simp only [Int32.lt_iff_toInt_lt, Int32.le_iff_toInt_le, ← Int32.toInt_inj, Int64.lt_iff_toInt_lt, Int64.le_iff_toInt_le, ← Int64.toInt_inj, ← Int32.toNat_toInt, mm_k0, mm_k1, mm_K0, mm_K1, mm_K2, Int32.toInt_toInt64, List.length_cons, List.length_nil, vp_updL, upd, ↓reduceIte, not_true_eq_false, not_false_eq_true, mm_x0]) <;> omega)) | fail) ?_; conv => whnf)
    | (refine Exists.intro 3000 ?_; conv => whnf)
    | (refine And.intro (fun h => absurd h (by first | decide | (((try simp only [lg_cmp_ge, lg_cmp_le, lg_cmp_gt, lg_cmp_lt, lg_cmp_eq]) <;> (try simp only [Int32.lt_iff_toInt_lt, Int32.le_iff_toInt_le, ← Int32.toInt_inj, Int64.lt_iff_toInt_lt, Int64.le_iff_toInt_le, ← Int64.toInt_inj, ← Int32.toNat_toInt, mm_k0, mm_k1, mm_K0, mm_K1, mm_K2, Int32.toInt_toInt64, List.length_cons, List.length_nil, vp_updL, upd, ↓reduceIte, not_true_eq_false, not_false_eq_true, mm_x0]) <;> omega)) | fail)) ?_; conv => whnf)
    | (refine And.intro (fun h => ?_) (fun h => ?_) <;> (try simp only [lg_cmp_ge, lg_cmp_le, lg_cmp_gt, lg_cmp_lt, lg_cmp_eq] at h) <;> (try simp only [Int32.lt_iff_toInt_lt, Int32.le_iff_toInt_le, ← Int32.toInt_inj, Int64.lt_iff_toInt_lt, Int64.le_iff_toInt_le, ← Int64.toInt_inj, ← Int32.toNat_toInt, mm_k0, mm_k1, mm_K0, mm_K1, mm_K2, Int32.toInt_toInt64, List.length_cons, List.length_nil, vp_updL, upd, ↓reduceIte, not_true_eq_false, not_false_eq_true, mm_x0] at h) <;> conv => whnf)
    | (refine And.intro (fun h => ?_) ?_ <;> (try simp only [lg_cmp_ge, lg_cmp_le, lg_cmp_gt, lg_cmp_lt, lg_cmp_eq] at h) <;> (try simp only [Int32.lt_iff_toInt_lt, Int32.le_iff_toInt_le, ← Int32.toInt_inj, Int64.lt_iff_toInt_lt, Int64.le_iff_toInt_le, ← Int64.toInt_inj, ← Int32.toNat_toInt, mm_k0, mm_k1, mm_K0, mm_K1, mm_K2, Int32.toInt_toInt64, List.length_cons, List.length_nil, vp_updL, upd, ↓reduceIte, not_true_eq_false, not_false_eq_true, mm_x0] at h) <;> conv => whnf)
    | exact trivial)
set_option maxRecDepth 100000 in
set_option maxHeartbeats 40000000 in
theorem c_told {xs : Nat → Int32} : mm_wE tb_P 6 xs (mm_callE tb_P 6 xs 99) 0 375 881 tb_LS [] tb_G 159584 tb_Q := by
  conv => whnf
  repeat' (first
    | exact rfl
    | (refine br_t (by first | decide | (((try simp only [lg_cmp_ge, lg_cmp_le, lg_cmp_gt, lg_cmp_lt, lg_cmp_eq]) <;> (try simp only [Int32.lt_iff_toInt_lt, Int32.le_iff_toInt_le, ← Int32.toInt_inj, Int64.lt_iff_toInt_lt, Int64.le_iff_toInt_le, ← Int64.toInt_inj, ← Int32.toNat_toInt, mm_k0, mm_k1, mm_K0, mm_K1, mm_K2, Int32.toInt_toInt64, List.length_cons, List.length_nil, vp_updL, upd, ↓reduceIte, not_true_eq_false, not_false_eq_true, mm_x0]) <;> omega)) | fail) ?_; conv => whnf)
    | (refine br_f (by first | decide | (((try simp only [lg_cmp_ge, lg_cmp_le, lg_cmp_gt, lg_cmp_lt, lg_cmp_eq]) <;> (try simp only [Int32.lt_iff_toInt_lt, Int32.le_iff_toInt_le, ← Int32.toInt_inj, Int64.lt_iff_toInt_lt, Int64.le_iff_toInt_le, ← Int64.toInt_inj, ← Int32.toNat_toInt, mm_k0, mm_k1, mm_K0, mm_K1, mm_K2, Int32.toInt_toInt64, List.length_cons, List.length_nil, vp_updL, upd, ↓reduceIte, not_true_eq_false, not_false_eq_true, mm_x0]) <;> omega)) | fail) ?_; conv => whnf)
    | (refine And.intro (by first | decide | (unfold vp_in; decide) | (((try unfold vp_in) <;> (try simp only [lg_cmp_ge, lg_cmp_le, lg_cmp_gt, lg_cmp_lt, lg_cmp_eq]) <;> (try simp only [Int32.lt_iff_toInt_lt, Int32.le_iff_toInt_le, ← Int32.toInt_inj, Int64.lt_iff_toInt_lt, Int64.le_iff_toInt_le, ← Int64.toInt_inj, ← Int32.toNat_toInt, mm_k0, mm_k1, mm_K0, mm_K1, mm_K2, Int32.toInt_toInt64, List.length_cons, List.length_nil, vp_updL, upd, ↓reduceIte, not_true_eq_false, not_false_eq_true, mm_x0]) <;> omega)) | fail) ?_; conv => whnf)
    | (refine Exists.intro 3000 ?_; conv => whnf)
    | (refine And.intro (fun h => absurd h (by first | decide | (((try simp only [lg_cmp_ge, lg_cmp_le, lg_cmp_gt, lg_cmp_lt, lg_cmp_eq]) <;> (try simp only [Int32.lt_iff_toInt_lt, Int32.le_iff_toInt_le, ← Int32.toInt_inj, Int64.lt_iff_toInt_lt, Int64.le_iff_toInt_le, ← Int64.toInt_inj, ← Int32.toNat_toInt, mm_k0, mm_k1, mm_K0, mm_K1, mm_K2, Int32.toInt_toInt64, List.length_cons, List.length_nil, vp_updL, upd, ↓reduceIte, not_true_eq_false, not_false_eq_true, mm_x0]) <;> omega)) | fail)) ?_; conv => whnf)
    | (refine And.intro (fun h => ?_) (fun h => ?_) <;> (try simp only [lg_cmp_ge, lg_cmp_le, lg_cmp_gt, lg_cmp_lt, lg_cmp_eq] at h) <;> (try simp only [Int32.lt_iff_toInt_lt, Int32.le_iff_toInt_le, ← Int32.toInt_inj, Int64.lt_iff_toInt_lt, Int64.le_iff_toInt_le, ← Int64.toInt_inj, ← Int32.toNat_toInt, mm_k0, mm_k1, mm_K0, mm_K1, mm_K2, Int32.toInt_toInt64, List.length_cons, List.length_nil, vp_updL, upd, ↓reduceIte, not_true_eq_false, not_false_eq_true, mm_x0] at h) <;> conv => whnf)
    | (refine And.intro (fun h => ?_) ?_ <;> (try simp only [lg_cmp_ge, lg_cmp_le, lg_cmp_gt, lg_cmp_lt, lg_cmp_eq] at h) <;> (try simp only [Int32.lt_iff_toInt_lt, Int32.le_iff_toInt_le, ← Int32.toInt_inj, Int64.lt_iff_toInt_lt, Int64.le_iff_toInt_le, ← Int64.toInt_inj, ← Int32.toNat_toInt, mm_k0, mm_k1, mm_K0, mm_K1, mm_K2, Int32.toInt_toInt64, List.length_cons, List.length_nil, vp_updL, upd, ↓reduceIte, not_true_eq_false, not_false_eq_true, mm_x0] at h) <;> conv => whnf)
    | exact trivial)
set_option maxRecDepth 100000 in
set_option maxHeartbeats 40000000 in
theorem c_put {xs : Nat → Int32} : mm_wE tb_P 6 xs (mm_callE tb_P 6 xs 99) 0 375 605 tb_LS [] tb_G 159584 tb_Q := by
  conv => whnf
  repeat' (first
    | exact rfl
    | (refine br_t (by first | decide | (((try simp only [lg_cmp_ge, lg_cmp_le, lg_cmp_gt, lg_cmp_lt, lg_cmp_eq]) <;> (try simp only [Int32.lt_iff_toInt_lt, Int32.le_iff_toInt_le, ← Int32.toInt_inj, Int64.lt_iff_toInt_lt, Int64.le_iff_toInt_le, ← Int64.toInt_inj, ← Int32.toNat_toInt, mm_k0, mm_k1, mm_K0, mm_K1, mm_K2, Int32.toInt_toInt64, List.length_cons, List.length_nil, vp_updL, upd, ↓reduceIte, not_true_eq_false, not_false_eq_true, mm_x0]) <;> omega)) | fail) ?_; conv => whnf)
    | (refine br_f (by first | decide | (((try simp only [lg_cmp_ge, lg_cmp_le, lg_cmp_gt, lg_cmp_lt, lg_cmp_eq]) <;> (try simp only [Int32.lt_iff_toInt_lt, Int32.le_iff_toInt_le, ← Int32.toInt_inj, Int64.lt_iff_toInt_lt, Int64.le_iff_toInt_le, ← Int64.toInt_inj, ← Int32.toNat_toInt, mm_k0, mm_k1, mm_K0, mm_K1, mm_K2, Int32.toInt_toInt64, List.length_cons, List.length_nil, vp_updL, upd, ↓reduceIte, not_true_eq_false, not_false_eq_true, mm_x0]) <;> omega)) | fail) ?_; conv => whnf)
    | (refine And.intro (by first | decide | (unfold vp_in; decide) | (((try unfold vp_in) <;> (try simp only [lg_cmp_ge, lg_cmp_le, lg_cmp_gt, lg_cmp_lt, lg_cmp_eq]) <;> (try simp only [Int32.lt_iff_toInt_lt, Int32.le_iff_toInt_le, ← Int32.toInt_inj, Int64.lt_iff_toInt_lt, Int64.le_iff_toInt_le, ← Int64.toInt_inj, ← Int32.toNat_toInt, mm_k0, mm_k1, mm_K0, mm_K1, mm_K2, Int32.toInt_toInt64, List.length_cons, List.length_nil, vp_updL, upd, ↓reduceIte, not_true_eq_false, not_false_eq_true, mm_x0]) <;> omega)) | fail) ?_; conv => whnf)
    | (refine Exists.intro 3000 ?_; conv => whnf)
    | (refine And.intro (fun h => absurd h (by first | decide | (((try simp only [lg_cmp_ge, lg_cmp_le, lg_cmp_gt, lg_cmp_lt, lg_cmp_eq]) <;> (try simp only [Int32.lt_iff_toInt_lt, Int32.le_iff_toInt_le, ← Int32.toInt_inj, Int64.lt_iff_toInt_lt, Int64.le_iff_toInt_le, ← Int64.toInt_inj, ← Int32.toNat_toInt, mm_k0, mm_k1, mm_K0, mm_K1, mm_K2, Int32.toInt_toInt64, List.length_cons, List.length_nil, vp_updL, upd, ↓reduceIte, not_true_eq_false, not_false_eq_true, mm_x0]) <;> omega)) | fail)) ?_; conv => whnf)
    | (refine And.intro (fun h => ?_) (fun h => ?_) <;> (try simp only [lg_cmp_ge, lg_cmp_le, lg_cmp_gt, lg_cmp_lt, lg_cmp_eq] at h) <;> (try simp only [Int32.lt_iff_toInt_lt, Int32.le_iff_toInt_le, ← Int32.toInt_inj, Int64.lt_iff_toInt_lt, Int64.le_iff_toInt_le, ← Int64.toInt_inj, ← Int32.toNat_toInt, mm_k0, mm_k1, mm_K0, mm_K1, mm_K2, Int32.toInt_toInt64, List.length_cons, List.length_nil, vp_updL, upd, ↓reduceIte, not_true_eq_false, not_false_eq_true, mm_x0] at h) <;> conv => whnf)
    | (refine And.intro (fun h => ?_) ?_ <;> (try simp only [lg_cmp_ge, lg_cmp_le, lg_cmp_gt, lg_cmp_lt, lg_cmp_eq] at h) <;> (try simp only [Int32.lt_iff_toInt_lt, Int32.le_iff_toInt_le, ← Int32.toInt_inj, Int64.lt_iff_toInt_lt, Int64.le_iff_toInt_le, ← Int64.toInt_inj, ← Int32.toNat_toInt, mm_k0, mm_k1, mm_K0, mm_K1, mm_K2, Int32.toInt_toInt64, List.length_cons, List.length_nil, vp_updL, upd, ↓reduceIte, not_true_eq_false, not_false_eq_true, mm_x0] at h) <;> conv => whnf)
    | exact trivial)
set_option maxRecDepth 100000 in
set_option maxHeartbeats 40000000 in
theorem c_get {xs : Nat → Int32} : mm_wE tb_P 6 xs (mm_callE tb_P 6 xs 99) 0 375 665 tb_LS [] tb_G 159584 tb_Q := by
  conv => whnf
  repeat' (first
    | exact rfl
    | (refine br_t (by first | decide | (((try simp only [lg_cmp_ge, lg_cmp_le, lg_cmp_gt, lg_cmp_lt, lg_cmp_eq]) <;> (try simp only [Int32.lt_iff_toInt_lt, Int32.le_iff_toInt_le, ← Int32.toInt_inj, Int64.lt_iff_toInt_lt, Int64.le_iff_toInt_le, ← Int64.toInt_inj, ← Int32.toNat_toInt, mm_k0, mm_k1, mm_K0, mm_K1, mm_K2, Int32.toInt_toInt64, List.length_cons, List.length_nil, vp_updL, upd, ↓reduceIte, not_true_eq_false, not_false_eq_true, mm_x0]) <;> omega)) | fail) ?_; conv => whnf)
    | (refine br_f (by first | decide | (((try simp only [lg_cmp_ge, lg_cmp_le, lg_cmp_gt, lg_cmp_lt, lg_cmp_eq]) <;> (try simp only [Int32.lt_iff_toInt_lt, Int32.le_iff_toInt_le, ← Int32.toInt_inj, Int64.lt_iff_toInt_lt, Int64.le_iff_toInt_le, ← Int64.toInt_inj, ← Int32.toNat_toInt, mm_k0, mm_k1, mm_K0, mm_K1, mm_K2, Int32.toInt_toInt64, List.length_cons, List.length_nil, vp_updL, upd, ↓reduceIte, not_true_eq_false, not_false_eq_true, mm_x0]) <;> omega)) | fail) ?_; conv => whnf)
    | (refine And.intro (by first | decide | (unfold vp_in; decide) | (((try unfold vp_in) <;> (try simp only [lg_cmp_ge, lg_cmp_le, lg_cmp_gt, lg_cmp_lt, lg_cmp_eq]) <;> (try simp only [Int32.lt_iff_toInt_lt, Int32.le_iff_toInt_le, ← Int32.toInt_inj, Int64.lt_iff_toInt_lt, Int64.le_iff_toInt_le, ← Int64.toInt_inj, ← Int32.toNat_toInt, mm_k0, mm_k1, mm_K0, mm_K1, mm_K2, Int32.toInt_toInt64, List.length_cons, List.length_nil, vp_updL, upd, ↓reduceIte, not_true_eq_false, not_false_eq_true, mm_x0]) <;> omega)) | fail) ?_; conv => whnf)
    | (refine Exists.intro 3000 ?_; conv => whnf)
    | (refine And.intro (fun h => absurd h (by first | decide | (((try simp only [lg_cmp_ge, lg_cmp_le, lg_cmp_gt, lg_cmp_lt, lg_cmp_eq]) <;> (try simp only [Int32.lt_iff_toInt_lt, Int32.le_iff_toInt_le, ← Int32.toInt_inj, Int64.lt_iff_toInt_lt, Int64.le_iff_toInt_le, ← Int64.toInt_inj, ← Int32.toNat_toInt, mm_k0, mm_k1, mm_K0, mm_K1, mm_K2, Int32.toInt_toInt64, List.length_cons, List.length_nil, vp_updL, upd, ↓reduceIte, not_true_eq_false, not_false_eq_true, mm_x0]) <;> omega)) | fail)) ?_; conv => whnf)
    | (refine And.intro (fun h => ?_) (fun h => ?_) <;> (try simp only [lg_cmp_ge, lg_cmp_le, lg_cmp_gt, lg_cmp_lt, lg_cmp_eq] at h) <;> (try simp only [Int32.lt_iff_toInt_lt, Int32.le_iff_toInt_le, ← Int32.toInt_inj, Int64.lt_iff_toInt_lt, Int64.le_iff_toInt_le, ← Int64.toInt_inj, ← Int32.toNat_toInt, mm_k0, mm_k1, mm_K0, mm_K1, mm_K2, Int32.toInt_toInt64, List.length_cons, List.length_nil, vp_updL, upd, ↓reduceIte, not_true_eq_false, not_false_eq_true, mm_x0] at h) <;> conv => whnf)
    | (refine And.intro (fun h => ?_) ?_ <;> (try simp only [lg_cmp_ge, lg_cmp_le, lg_cmp_gt, lg_cmp_lt, lg_cmp_eq] at h) <;> (try simp only [Int32.lt_iff_toInt_lt, Int32.le_iff_toInt_le, ← Int32.toInt_inj, Int64.lt_iff_toInt_lt, Int64.le_iff_toInt_le, ← Int64.toInt_inj, ← Int32.toNat_toInt, mm_k0, mm_k1, mm_K0, mm_K1, mm_K2, Int32.toInt_toInt64, List.length_cons, List.length_nil, vp_updL, upd, ↓reduceIte, not_true_eq_false, not_false_eq_true, mm_x0] at h) <;> conv => whnf)
    | exact trivial)
set_option maxRecDepth 100000 in
set_option maxHeartbeats 40000000 in
theorem c_run {xs : Nat → Int32} : mm_wE tb_P 6 xs (mm_callE tb_P 6 xs 99) 0 375 801 tb_LS [] tb_G 159584 tb_Q := by
  conv => whnf
  repeat' (first
    | exact rfl
    | (refine br_t (by first | decide | (((try simp only [lg_cmp_ge, lg_cmp_le, lg_cmp_gt, lg_cmp_lt, lg_cmp_eq]) <;> (try simp only [Int32.lt_iff_toInt_lt, Int32.le_iff_toInt_le, ← Int32.toInt_inj, Int64.lt_iff_toInt_lt, Int64.le_iff_toInt_le, ← Int64.toInt_inj, ← Int32.toNat_toInt, mm_k0, mm_k1, mm_K0, mm_K1, mm_K2, Int32.toInt_toInt64, List.length_cons, List.length_nil, vp_updL, upd, ↓reduceIte, not_true_eq_false, not_false_eq_true, mm_x0]) <;> omega)) | fail) ?_; conv => whnf)
    | (refine br_f (by first | decide | (((try simp only [lg_cmp_ge, lg_cmp_le, lg_cmp_gt, lg_cmp_lt, lg_cmp_eq]) <;> (try simp only [Int32.lt_iff_toInt_lt, Int32.le_iff_toInt_le, ← Int32.toInt_inj, Int64.lt_iff_toInt_lt, Int64.le_iff_toInt_le, ← Int64.toInt_inj, ← Int32.toNat_toInt, mm_k0, mm_k1, mm_K0, mm_K1, mm_K2, Int32.toInt_toInt64, List.length_cons, List.length_nil, vp_updL, upd, ↓reduceIte, not_true_eq_false, not_false_eq_true, mm_x0]) <;> omega)) | fail) ?_; conv => whnf)
    | (refine And.intro (by first | decide | (unfold vp_in; decide) | (((try unfold vp_in) <;> (try simp only [lg_cmp_ge, lg_cmp_le, lg_cmp_gt, lg_cmp_lt, lg_cmp_eq]) <;> (try simp only [Int32.lt_iff_toInt_lt, Int32.le_iff_toInt_le, ← Int32.toInt_inj, Int64.lt_iff_toInt_lt, Int64.le_iff_toInt_le, ← Int64.toInt_inj, ← Int32.toNat_toInt, mm_k0, mm_k1, mm_K0, mm_K1, mm_K2, Int32.toInt_toInt64, List.length_cons, List.length_nil, vp_updL, upd, ↓reduceIte, not_true_eq_false, not_false_eq_true, mm_x0]) <;> omega)) | fail) ?_; conv => whnf)
    | (refine Exists.intro 3000 ?_; conv => whnf)
    | (refine And.intro (fun h => absurd h (by first | decide | (((try simp only [lg_cmp_ge, lg_cmp_le, lg_cmp_gt, lg_cmp_lt, lg_cmp_eq]) <;> (try simp only [Int32.lt_iff_toInt_lt, Int32.le_iff_toInt_le, ← Int32.toInt_inj, Int64.lt_iff_toInt_lt, Int64.le_iff_toInt_le, ← Int64.toInt_inj, ← Int32.toNat_toInt, mm_k0, mm_k1, mm_K0, mm_K1, mm_K2, Int32.toInt_toInt64, List.length_cons, List.length_nil, vp_updL, upd, ↓reduceIte, not_true_eq_false, not_false_eq_true, mm_x0]) <;> omega)) | fail)) ?_; conv => whnf)
    | (refine And.intro (fun h => ?_) (fun h => ?_) <;> (try simp only [lg_cmp_ge, lg_cmp_le, lg_cmp_gt, lg_cmp_lt, lg_cmp_eq] at h) <;> (try simp only [Int32.lt_iff_toInt_lt, Int32.le_iff_toInt_le, ← Int32.toInt_inj, Int64.lt_iff_toInt_lt, Int64.le_iff_toInt_le, ← Int64.toInt_inj, ← Int32.toNat_toInt, mm_k0, mm_k1, mm_K0, mm_K1, mm_K2, Int32.toInt_toInt64, List.length_cons, List.length_nil, vp_updL, upd, ↓reduceIte, not_true_eq_false, not_false_eq_true, mm_x0] at h) <;> conv => whnf)
    | (refine And.intro (fun h => ?_) ?_ <;> (try simp only [lg_cmp_ge, lg_cmp_le, lg_cmp_gt, lg_cmp_lt, lg_cmp_eq] at h) <;> (try simp only [Int32.lt_iff_toInt_lt, Int32.le_iff_toInt_le, ← Int32.toInt_inj, Int64.lt_iff_toInt_lt, Int64.le_iff_toInt_le, ← Int64.toInt_inj, ← Int32.toNat_toInt, mm_k0, mm_k1, mm_K0, mm_K1, mm_K2, Int32.toInt_toInt64, List.length_cons, List.length_nil, vp_updL, upd, ↓reduceIte, not_true_eq_false, not_false_eq_true, mm_x0] at h) <;> conv => whnf)
    | exact trivial)
set_option maxRecDepth 100000 in
set_option maxHeartbeats 40000000 in
theorem c_printed {xs : Nat → Int32} : mm_wE tb_P 6 xs (mm_callE tb_P 6 xs 99) 0 375 937 tb_LS [] tb_G 159584 tb_Q := by
  conv => whnf
  repeat' (first
    | exact rfl
    | (refine br_t (by first | decide | (((try simp only [lg_cmp_ge, lg_cmp_le, lg_cmp_gt, lg_cmp_lt, lg_cmp_eq]) <;> (try simp only [Int32.lt_iff_toInt_lt, Int32.le_iff_toInt_le, ← Int32.toInt_inj, Int64.lt_iff_toInt_lt, Int64.le_iff_toInt_le, ← Int64.toInt_inj, ← Int32.toNat_toInt, mm_k0, mm_k1, mm_K0, mm_K1, mm_K2, Int32.toInt_toInt64, List.length_cons, List.length_nil, vp_updL, upd, ↓reduceIte, not_true_eq_false, not_false_eq_true, mm_x0]) <;> omega)) | fail) ?_; conv => whnf)
    | (refine br_f (by first | decide | (((try simp only [lg_cmp_ge, lg_cmp_le, lg_cmp_gt, lg_cmp_lt, lg_cmp_eq]) <;> (try simp only [Int32.lt_iff_toInt_lt, Int32.le_iff_toInt_le, ← Int32.toInt_inj, Int64.lt_iff_toInt_lt, Int64.le_iff_toInt_le, ← Int64.toInt_inj, ← Int32.toNat_toInt, mm_k0, mm_k1, mm_K0, mm_K1, mm_K2, Int32.toInt_toInt64, List.length_cons, List.length_nil, vp_updL, upd, ↓reduceIte, not_true_eq_false, not_false_eq_true, mm_x0]) <;> omega)) | fail) ?_; conv => whnf)
    | (refine And.intro (by first | decide | (unfold vp_in; decide) | (((try unfold vp_in) <;> (try simp only [lg_cmp_ge, lg_cmp_le, lg_cmp_gt, lg_cmp_lt, lg_cmp_eq]) <;> (try simp only [Int32.lt_iff_toInt_lt, Int32.le_iff_toInt_le, ← Int32.toInt_inj, Int64.lt_iff_toInt_lt, Int64.le_iff_toInt_le, ← Int64.toInt_inj, ← Int32.toNat_toInt, mm_k0, mm_k1, mm_K0, mm_K1, mm_K2, Int32.toInt_toInt64, List.length_cons, List.length_nil, vp_updL, upd, ↓reduceIte, not_true_eq_false, not_false_eq_true, mm_x0]) <;> omega)) | fail) ?_; conv => whnf)
    | (refine Exists.intro 3000 ?_; conv => whnf)
    | (refine And.intro (fun h => absurd h (by first | decide | (((try simp only [lg_cmp_ge, lg_cmp_le, lg_cmp_gt, lg_cmp_lt, lg_cmp_eq]) <;> (try simp only [Int32.lt_iff_toInt_lt, Int32.le_iff_toInt_le, ← Int32.toInt_inj, Int64.lt_iff_toInt_lt, Int64.le_iff_toInt_le, ← Int64.toInt_inj, ← Int32.toNat_toInt, mm_k0, mm_k1, mm_K0, mm_K1, mm_K2, Int32.toInt_toInt64, List.length_cons, List.length_nil, vp_updL, upd, ↓reduceIte, not_true_eq_false, not_false_eq_true, mm_x0]) <;> omega)) | fail)) ?_; conv => whnf)
    | (refine And.intro (fun h => ?_) (fun h => ?_) <;> (try simp only [lg_cmp_ge, lg_cmp_le, lg_cmp_gt, lg_cmp_lt, lg_cmp_eq] at h) <;> (try simp only [Int32.lt_iff_toInt_lt, Int32.le_iff_toInt_le, ← Int32.toInt_inj, Int64.lt_iff_toInt_lt, Int64.le_iff_toInt_le, ← Int64.toInt_inj, ← Int32.toNat_toInt, mm_k0, mm_k1, mm_K0, mm_K1, mm_K2, Int32.toInt_toInt64, List.length_cons, List.length_nil, vp_updL, upd, ↓reduceIte, not_true_eq_false, not_false_eq_true, mm_x0] at h) <;> conv => whnf)
    | (refine And.intro (fun h => ?_) ?_ <;> (try simp only [lg_cmp_ge, lg_cmp_le, lg_cmp_gt, lg_cmp_lt, lg_cmp_eq] at h) <;> (try simp only [Int32.lt_iff_toInt_lt, Int32.le_iff_toInt_le, ← Int32.toInt_inj, Int64.lt_iff_toInt_lt, Int64.le_iff_toInt_le, ← Int64.toInt_inj, ← Int32.toNat_toInt, mm_k0, mm_k1, mm_K0, mm_K1, mm_K2, Int32.toInt_toInt64, List.length_cons, List.length_nil, vp_updL, upd, ↓reduceIte, not_true_eq_false, not_false_eq_true, mm_x0] at h) <;> conv => whnf)
    | exact trivial)
end

section
/-! A SMALL MACHINE whose runs are Props that Lean computes: a state is a list of locals, a stack, a list of cells by their POSITIONS (0: the script; the others in the order of their making); mm_ words are mine. -/
/-- a position's address: the script's cell b, or the cell that was made as the k-th since the heap had z cells -/
def mm_A (b z : Nat) : Nat → Nat
  | 0 => b
  | k + 1 => z + k
def mm_v (A : Nat → Nat) : Value → Value
  | .ref p => .ref (A p)
  | v => v
def mm_L (A : Nat → Nat) (ls : List (Nat × Value)) : List (Nat × Value) := ls.map (fun q => (q.1, mm_v A q.2))
def mm_S (A : Nat → Nat) (st : List Value) : List Value := st.map (mm_v A)
theorem mm_cat (A : Nat → Nat) (v : Value) : (mm_v A v).category = v.category := by cases v <;> rfl
def mm_get : List (Nat × Value) → Nat → Option Value
  | [], _ => none
  | q :: r, i => if q.1 = i then some q.2 else mm_get r i
theorem mm_get_mem {i : Nat} {v : Value} : ∀ {ls : List (Nat × Value)}, mm_get ls i = some v → (i, v) ∈ ls
  | [], h => by simp [mm_get] at h
  | q :: r, h => by
    unfold mm_get at h
    split at h
    · rename_i hq
      cases h
      subst hq
      exact List.mem_cons_self
    · exact List.mem_cons_of_mem _ (mm_get_mem h)
theorem mm_get_has {A : Nat → Nat} {L : Array Slot} {nL i : Nat} {v : Value} {ls : List (Nat × Value)} (hl : lv_has L nL (mm_L A ls)) (h : mm_get ls i = some v) : L[i]? = some (.val (mm_v A v)) :=
  hl.2.2 (i, mm_v A v) (List.mem_map.mpr ⟨(i, v), mm_get_mem h, rfl⟩)
def mm_set1 (ls : List (Nat × Value)) (i : Nat) (v : Value) : List (Nat × Value) := (i, v) :: ls.filter (fun q => !(q.1 == i) && !(q.1 + 1 == i && q.2.category == 2))
def mm_set2 (ls : List (Nat × Value)) (i : Nat) (v : Value) : List (Nat × Value) := (i, v) :: ls.filter (fun q => !(q.1 == i) && (!(q.1 == i + 1) && !(q.1 + 1 == i && q.2.category == 2)))
theorem mm_filter (A : Nat → Nat) (P : Nat → Nat → Bool) : ∀ ls : List (Nat × Value), (mm_L A ls).filter (fun q => P q.1 q.2.category) = mm_L A (ls.filter (fun q => P q.1 q.2.category))
  | [] => rfl
  | q :: r => by
    have ih := mm_filter A P r
    simp only [mm_L, List.map_cons, List.filter_cons, mm_cat] at ih ⊢
    split
    · rw [List.map_cons, ih]
    · exact ih
theorem mm_set1_L (A : Nat → Nat) (ls : List (Nat × Value)) (i : Nat) (v : Value) : (i, mm_v A v) :: (mm_L A ls).filter (fun q => !(q.1 == i) && !(q.1 + 1 == i && q.2.category == 2)) = mm_L A (mm_set1 ls i v) := by
  have h := mm_filter A (fun a c => !(a == i) && !(a + 1 == i && c == 2)) ls
  simp only [mm_set1, mm_L, List.map_cons] at h ⊢
  rw [h]
theorem mm_set2_L (A : Nat → Nat) (ls : List (Nat × Value)) (i : Nat) (v : Value) : (i, mm_v A v) :: (mm_L A ls).filter (fun q => !(q.1 == i) && (!(q.1 == i + 1) && !(q.1 + 1 == i && q.2.category == 2))) = mm_L A (mm_set2 ls i v) := by
  have h := mm_filter A (fun a c => !(a == i) && (!(a == i + 1) && !(a + 1 == i && c == 2))) ls
  simp only [mm_set2, mm_L, List.map_cons] at h ⊢
  rw [h]
-- the instructions, in groups
def mm_con : Instr → Option (Value × Nat)
  | .iconst n => some (.int (Int32.ofInt n), 1)
  | .bipush n => some (.int (Int8.ofInt n).toInt32, 2)
  | .sipush n => some (.int (Int16.ofInt n).toInt32, 3)
  | .lconst n => some (.long (Int64.ofNat (n : Nat)), 1)
  | .aconst_null => some (.null, 1)
  | _ => none
/-- a load: which local, its length, its kind (0 int, 1 long, 2 a reference) -/
def mm_ld : Instr → Option (Nat × Nat × Nat)
  | .iload_n k => some ((k : Nat), 1, 0)
  | .iload i => some (i, 2, 0)
  | .lload_n k => some ((k : Nat), 1, 1)
  | .lload i => some (i, 2, 1)
  | .aload_n k => some ((k : Nat), 1, 2)
  | .aload i => some (i, 2, 2)
  | _ => none
def mm_sto : Instr → Option (Nat × Nat × Nat)
  | .istore_n k => some ((k : Nat), 1, 0)
  | .istore i => some (i, 2, 0)
  | .lstore_n k => some ((k : Nat), 1, 1)
  | .lstore i => some (i, 2, 1)
  | .astore_n k => some ((k : Nat), 1, 2)
  | .astore i => some (i, 2, 2)
  | _ => none
def mm_kind : Nat → Value → Bool
  | 0, .int _ => true
  | 1, .long _ => true
  | 2, .ref _ => true
  | 2, .null => true
  | _, _ => false
def mm_bin : Instr → Option (Int32 → Int32 → Int32)
  | .iadd => some (fun x y => x + y)
  | .isub => some (fun x y => x - y)
  | .imul => some (fun x y => x * y)
  | .iand => some (fun x y => x &&& y)
  | .ior => some (fun x y => x ||| y)
  | .ixor => some (fun x y => x ^^^ y)
  | .ishl => some (fun x y => x <<< (y &&& 31))
  | .ishr => some (fun x y => x >>> (y &&& 31))
  | .iushr => some (fun x y => (x.toUInt32 >>> (y.toUInt32 &&& Int32.toUInt32 31)).toInt32)
  | _ => none
def mm_binL : Instr → Option (Int64 → Int64 → Int64)
  | .ladd => some (fun x y => x + y)
  | .lsub => some (fun x y => x - y)
  | .lmul => some (fun x y => x * y)
  | .land => some (fun x y => x &&& y)
  | .lor => some (fun x y => x ||| y)
  | .lxor => some (fun x y => x ^^^ y)
  | _ => none
def mm_un : Instr → Value → Option Value
  | .ineg, .int x => some (.int (-x))
  | .i2c, .int x => some (.int (x.toUInt32 % 65536).toInt32)
  | .i2b, .int x => some (.int x.toInt8.toInt32)
  | .i2s, .int x => some (.int x.toInt16.toInt32)
  | .i2l, .int x => some (.long x.toInt64)
  | .l2i, .long x => some (.int x.toInt32)
  | .lneg, .long x => some (.long (-x))
  | _, _ => none
/-- a division: the divisor is not 0 -/
def mm_div : Instr → Option (Int32 → Int32 → Int32)
  | .idiv => some (fun x y => x / y)
  | .irem => some (fun x y => x - x / y * y)
  | _ => none
def mm_divL : Instr → Option (Int64 → Int64 → Int64)
  | .ldiv => some (fun x y => x / y)
  | .lrem => some (fun x y => x - x / y * y)
  | _ => none
def mm_stk : Instr → List Value → Option (List Value)
  | .dup, a :: r => if a.category = 1 then some (a :: a :: r) else none
  | .pop, a :: r => if a.category = 1 then some r else none
  | .dup_x1, a :: b :: r => if a.category = 1 ∧ b.category = 1 then some (a :: b :: a :: r) else none
  | .dup_x2, a :: b :: d :: r => if a.category = 1 ∧ b.category = 1 ∧ d.category = 1 then some (a :: b :: d :: a :: r) else none
  | .dup2, a :: r => if a.category = 2 then some (a :: a :: r) else match r with
    | b :: r => if a.category = 1 ∧ b.category = 1 then some (a :: b :: a :: b :: r) else none
    | [] => none
  | .pop2, a :: r => if a.category = 2 then some r else none
  | .dup2_x1, a :: b :: r => if a.category = 2 ∧ b.category = 1 then some (a :: b :: a :: r) else none
  | .dup2_x2, a :: b :: d :: r => if a.category = 2 ∧ b.category = 1 ∧ d.category = 1 then some (a :: b :: d :: a :: r) else none
  | _, _ => none
/-- a branch on ints: the condition, the offset, the rest -/
def mm_br : Instr → List Value → Option (Prop × Int × List Value)
  | .ifCond .eq o, .int x :: r => some (x = 0, o, r)
  | .ifCond .ne o, .int x :: r => some (¬ x = 0, o, r)
  | .ifCond .lt o, .int x :: r => some (x < 0, o, r)
  | .ifCond .ge o, .int x :: r => some (0 ≤ x, o, r)
  | .ifCond .gt o, .int x :: r => some (0 < x, o, r)
  | .ifCond .le o, .int x :: r => some (x ≤ 0, o, r)
  | .if_icmp .eq o, .int y :: .int x :: r => some (x = y, o, r)
  | .if_icmp .ne o, .int y :: .int x :: r => some (¬ x = y, o, r)
  | .if_icmp .lt o, .int y :: .int x :: r => some (x < y, o, r)
  | .if_icmp .ge o, .int y :: .int x :: r => some (y ≤ x, o, r)
  | .if_icmp .gt o, .int y :: .int x :: r => some (y < x, o, r)
  | .if_icmp .le o, .int y :: .int x :: r => some (x ≤ y, o, r)
  | _, _ => none
section MmPure
variable {p : Program} {l : Launch} {e : Env} {R : Room} {s : State} {m : MethodId} {args : Array Value} {below : List Frame} {meth : Method} {c : Code} {H : Heap} {locs : List Loc} {cells slots : Nat} {Q : State → Prop} {cc : ByteArray} {pc : Nat} {ins : Instr} {L : Array Slot} {nL : Nat} {A : Nat → Nat} {ls : List (Nat × Value)} {rest : List Value}
theorem mm_con_ok (hx : p.tables.exec = Jvm.exec) (hb : c.code = cc) {v : Value} {len : Nat} (h : mm_con ins = some (v, len)) (hdg : decode cc pc = .ok (ins, len))
    (k : W p l e R s m args below meth c H locs cells slots Q (F0 m (pc + len) L (mm_v A v :: rest))) : W p l e R s m args below meth c H locs cells slots Q (F0 m pc L rest) := by
  unfold mm_con at h
  split at h
  · cases h; exact lv_iconst hx hb hdg rfl k
  · cases h; exact lv_bipush hx hb hdg rfl k
  · cases h; exact lv_sipush hx hb hdg rfl k
  · cases h; exact lv_lconst hx hb hdg rfl k
  · cases h; exact lv_null hx hb hdg k
  · cases h
theorem mm_ld_ok (hx : p.tables.exec = Jvm.exec) (hb : c.code = cc) {i len kd : Nat} {v : Value} (h : mm_ld ins = some (i, len, kd)) (hv : L[i]? = some (.val (mm_v A v))) (hk : mm_kind kd v = true) (hdg : decode cc pc = .ok (ins, len))
    (k : W p l e R s m args below meth c H locs cells slots Q (F0 m (pc + len) L (mm_v A v :: rest))) : W p l e R s m args below meth c H locs cells slots Q (F0 m pc L rest) := by
  unfold mm_ld at h
  split at h
  · cases h; unfold mm_kind at hk; split at hk <;> first | (cases hk; done) | (rename_i h1; cases h1; done) | exact lv_iload_n hx hb hdg rfl hv k
  · cases h; unfold mm_kind at hk; split at hk <;> first | (cases hk; done) | (rename_i h1; cases h1; done) | exact lv_iload hx hb hdg hv k
  · cases h; unfold mm_kind at hk; split at hk <;> first | (cases hk; done) | (rename_i h1; cases h1; done) | exact lv_lload_n hx hb hdg rfl hv k
  · cases h; unfold mm_kind at hk; split at hk <;> first | (cases hk; done) | (rename_i h1; cases h1; done) | exact lv_lload hx hb hdg hv k
  · cases h; unfold mm_kind at hk; split at hk <;> first | (cases hk; done) | (rename_i h1; cases h1; done) | exact lv_aload_n hx hb hdg rfl hv k | exact lv_aload_nN hx hb hdg rfl hv k
  · cases h; unfold mm_kind at hk; split at hk <;> first | (cases hk; done) | (rename_i h1; cases h1; done) | exact lv_aload hx hb hdg hv k | exact lv_aloadN hx hb hdg hv k
  · cases h
theorem mm_bin_ok (hx : p.tables.exec = Jvm.exec) (hb : c.code = cc) {f : Int32 → Int32 → Int32} {x y : Int32} (h : mm_bin ins = some f) (hdg : decode cc pc = .ok (ins, 1))
    (k : W p l e R s m args below meth c H locs cells slots Q (F0 m (pc + 1) L (.int (f x y) :: rest))) : W p l e R s m args below meth c H locs cells slots Q (F0 m pc L (.int y :: .int x :: rest)) := by
  unfold mm_bin at h
  split at h
  · cases h; exact lv_iadd hx hb hdg k
  · cases h; exact lv_isub hx hb hdg k
  · cases h; exact lv_imul hx hb hdg k
  · cases h; exact lv_iand hx hb hdg k
  · cases h; exact lv_ior hx hb hdg k
  · cases h; exact lv_ixor hx hb hdg k
  · cases h; exact lv_ishl hx hb hdg k
  · cases h; exact lv_ishr hx hb hdg k
  · cases h; exact lv_iushr hx hb hdg rfl k
  · cases h
theorem mm_binL_ok (hx : p.tables.exec = Jvm.exec) (hb : c.code = cc) {f : Int64 → Int64 → Int64} {x y : Int64} (h : mm_binL ins = some f) (hdg : decode cc pc = .ok (ins, 1))
    (k : W p l e R s m args below meth c H locs cells slots Q (F0 m (pc + 1) L (.long (f x y) :: rest))) : W p l e R s m args below meth c H locs cells slots Q (F0 m pc L (.long y :: .long x :: rest)) := by
  unfold mm_binL at h
  split at h
  · cases h; exact lv_ladd hx hb hdg k
  · cases h; exact lv_lsub hx hb hdg k
  · cases h; exact lv_lmul hx hb hdg k
  · cases h; exact lv_land hx hb hdg k
  · cases h; exact lv_lor hx hb hdg k
  · cases h; exact lv_lxor hx hb hdg k
  · cases h
theorem mm_un_ok (hx : p.tables.exec = Jvm.exec) (hb : c.code = cc) {v w : Value} (h : mm_un ins v = some w) (hdg : decode cc pc = .ok (ins, 1))
    (k : W p l e R s m args below meth c H locs cells slots Q (F0 m (pc + 1) L (mm_v A w :: rest))) : W p l e R s m args below meth c H locs cells slots Q (F0 m pc L (mm_v A v :: rest)) := by
  unfold mm_un at h
  split at h
  · cases h; exact lv_ineg hx hb hdg k
  · cases h; exact lv_i2c hx hb hdg rfl k
  · cases h; exact lv_i2b hx hb hdg rfl k
  · cases h; exact lv_i2s hx hb hdg rfl k
  · cases h; exact lv_i2l hx hb hdg rfl k
  · cases h; exact lv_l2i hx hb hdg rfl k
  · cases h; exact lv_lneg hx hb hdg k
  · cases h
theorem mm_div_ok (hx : p.tables.exec = Jvm.exec) (hb : c.code = cc) {f : Int32 → Int32 → Int32} {x y : Int32} (h : mm_div ins = some f) (hy : ¬ y = 0) (hdg : decode cc pc = .ok (ins, 1))
    (k : W p l e R s m args below meth c H locs cells slots Q (F0 m (pc + 1) L (.int (f x y) :: rest))) : W p l e R s m args below meth c H locs cells slots Q (F0 m pc L (.int y :: .int x :: rest)) := by
  unfold mm_div at h
  split at h
  · cases h; exact lv_idiv hx hb hdg hy k
  · cases h; exact lv_irem hx hb hdg hy k
  · cases h
theorem mm_divL_ok (hx : p.tables.exec = Jvm.exec) (hb : c.code = cc) {f : Int64 → Int64 → Int64} {x y : Int64} (h : mm_divL ins = some f) (hy : ¬ y = 0) (hdg : decode cc pc = .ok (ins, 1))
    (k : W p l e R s m args below meth c H locs cells slots Q (F0 m (pc + 1) L (.long (f x y) :: rest))) : W p l e R s m args below meth c H locs cells slots Q (F0 m pc L (.long y :: .long x :: rest)) := by
  unfold mm_divL at h
  split at h
  · cases h; exact lv_ldiv hx hb hdg hy k
  · cases h; exact lv_lrem hx hb hdg hy k
  · cases h
theorem mm_stk_ok (hx : p.tables.exec = Jvm.exec) (hb : c.code = cc) {st st' : List Value} (h : mm_stk ins st = some st') (hdg : decode cc pc = .ok (ins, 1))
    (k : W p l e R s m args below meth c H locs cells slots Q (F0 m (pc + 1) L (mm_S A st'))) : W p l e R s m args below meth c H locs cells slots Q (F0 m pc L (mm_S A st)) := by
  unfold mm_stk at h
  split at h
  · split at h
    · rename_i h1; cases h; exact lv_dup hx hb hdg (by rw [mm_cat]; exact h1) k
    · cases h
  · split at h
    · rename_i h1; cases h; exact lv_pop hx hb hdg (by rw [mm_cat]; exact h1) k
    · cases h
  · split at h
    · rename_i h1; cases h; exact lv_dup_x1 hx hb hdg (by rw [mm_cat]; exact h1.1) (by rw [mm_cat]; exact h1.2) k
    · cases h
  · split at h
    · rename_i h1; cases h; exact lv_dup_x2 hx hb hdg (by rw [mm_cat]; exact h1.1) (by rw [mm_cat]; exact h1.2.1) (by rw [mm_cat]; exact h1.2.2) k
    · cases h
  · split at h
    · rename_i h1; cases h; exact lv_dup2_2 hx hb hdg (by rw [mm_cat]; exact h1) k
    · split at h
      · split at h
        · rename_i h1; cases h; exact lv_dup2_11 hx hb hdg (by rw [mm_cat]; exact h1.1) (by rw [mm_cat]; exact h1.2) k
        · cases h
      · cases h
  · split at h
    · rename_i h1; cases h; exact lv_pop2_2 hx hb hdg (by rw [mm_cat]; exact h1) k
    · cases h
  · split at h
    · rename_i h1; cases h; exact lv_dup2_x1_2 hx hb hdg (by rw [mm_cat]; exact h1.1) (by rw [mm_cat]; exact h1.2) k
    · cases h
  · split at h
    · rename_i h1; cases h; exact lv_dup2_x2_2 hx hb hdg (by rw [mm_cat]; exact h1.1) (by rw [mm_cat]; exact h1.2.1) (by rw [mm_cat]; exact h1.2.2) k
    · cases h
  · cases h
theorem mm_br_ok (hx : p.tables.exec = Jvm.exec) (hb : c.code = cc) {st st' : List Value} {P : Prop} {o : Int} {tgt : Nat} (h : mm_br ins st = some (P, o, st')) (hdg : decode cc pc = .ok (ins, 3)) (ht : (pc : Int) + o = (tgt : Int))
    (kt : P → W p l e R s m args below meth c H locs cells slots Q (F0 m tgt L (mm_S A st'))) (kf : ¬ P → W p l e R s m args below meth c H locs cells slots Q (F0 m (pc + 3) L (mm_S A st'))) : W p l e R s m args below meth c H locs cells slots Q (F0 m pc L (mm_S A st)) := by
  unfold mm_br at h
  split at h
  · cases h; exact lv_if_eq hx hb hdg ht kt kf
  · cases h; exact lv_if_ne hx hb hdg ht kt (fun q => kf (fun n => n q))
  · cases h; exact lv_if_lt hx hb hdg ht kt kf
  · cases h; exact lv_if_ge hx hb hdg ht kt kf
  · cases h; exact lv_if_gt hx hb hdg ht kt kf
  · cases h; exact lv_if_le hx hb hdg ht kt kf
  · cases h; exact lv_icmp_eq hx hb hdg ht kt kf
  · cases h; exact lv_icmp_ne hx hb hdg ht kt (fun q => kf (fun n => n q))
  · cases h; exact lv_icmp_lt hx hb hdg ht kt kf
  · cases h; exact lv_icmp_ge hx hb hdg ht kt kf
  · cases h; exact lv_icmp_gt hx hb hdg ht kt kf
  · cases h; exact lv_icmp_le hx hb hdg ht kt kf
  · cases h
theorem mm_sto_ok (hx : p.tables.exec = Jvm.exec) (hb : c.code = cc) {i len kd : Nat} {v : Value} (h : mm_sto ins = some (i, len, kd)) (hk : mm_kind kd v = true) (hl : lv_has L nL (mm_L A ls)) (hn : i + 1 < nL ∨ (i < nL ∧ v.category = 1)) (hdg : decode cc pc = .ok (ins, len))
    (k : ∀ L', lv_has L' nL (mm_L A (if v.category = 2 then mm_set2 ls i v else mm_set1 ls i v)) → W p l e R s m args below meth c H locs cells slots Q (F0 m (pc + len) L' rest)) : W p l e R s m args below meth c H locs cells slots Q (F0 m pc L (mm_v A v :: rest)) := by
  have hi : i < nL := hn.elim (fun q => by omega) (fun q => q.1)
  have k1 : ∀ L', lv_has L' nL (mm_L A (mm_set1 ls i v)) → v.category = 1 → W p l e R s m args below meth c H locs cells slots Q (F0 m (pc + len) L' rest) := fun L' q q1 => k L' (by rw [if_neg (by omega)]; exact q)
  have k2 : ∀ L', lv_has L' nL (mm_L A (mm_set2 ls i v)) → v.category = 2 → W p l e R s m args below meth c H locs cells slots Q (F0 m (pc + len) L' rest) := fun L' q q1 => k L' (by rw [if_pos q1]; exact q)
  unfold mm_sto at h
  split at h
  · cases h; unfold mm_kind at hk; split at hk <;> first | (cases hk; done) | (rename_i h1; cases h1; done) | exact lv_istore_n hx hb hdg rfl hl hi (mm_set1_L A ls _ (.int _)) (fun L' q => k1 L' q rfl)
  · cases h; unfold mm_kind at hk; split at hk <;> first | (cases hk; done) | (rename_i h1; cases h1; done) | exact lv_istore hx hb hdg hl hi (mm_set1_L A ls _ (.int _)) (fun L' q => k1 L' q rfl)
  · cases h; unfold mm_kind at hk; split at hk <;> first | (cases hk; done) | (rename_i h1; cases h1; done) | exact lv_lstore_n hx hb hdg rfl hl (hn.elim (fun q => q) (fun q => by have := q.2; simp [Value.category] at this)) (mm_set2_L A ls _ (.long _)) (fun L' q => k2 L' q rfl)
  · cases h; unfold mm_kind at hk; split at hk <;> first | (cases hk; done) | (rename_i h1; cases h1; done) | exact lv_lstore hx hb hdg hl (hn.elim (fun q => q) (fun q => by have := q.2; simp [Value.category] at this)) (mm_set2_L A ls _ (.long _)) (fun L' q => k2 L' q rfl)
  · cases h; unfold mm_kind at hk; split at hk <;> first | (cases hk; done) | (rename_i h1; cases h1; done) | exact lv_astore_n hx hb hdg rfl hl hi (mm_set1_L A ls _ (.ref _)) (fun L' q => k1 L' q rfl) | exact lv_astore_nN hx hb hdg rfl hl hi (mm_set1_L A ls _ .null) (fun L' q => k1 L' q rfl)
  · cases h; unfold mm_kind at hk; split at hk <;> first | (cases hk; done) | (rename_i h1; cases h1; done) | exact lv_astore hx hb hdg hl hi (mm_set1_L A ls _ (.ref _)) (fun L' q => k1 L' q rfl) | exact lv_astoreN hx hb hdg hl hi (mm_set1_L A ls _ .null) (fun L' q => k1 L' q rfl)
  · cases h
end MmPure
end
section
/-! THE CELLS of the small machine: a list g of them; position p + 1 is g's p-th; position 0 is the script. -/
def mm_a (A : Nat → Nat) : vp_A → vp_A
  | (n, .inr (.inr (.inr (.inr f)))) => (n, .inr (.inr (.inr (.inr (fun i => (f i).map A)))))
  | a => a
def mm_e (A : Nat → Nat) (cT : Nat → Nat) : va_E → va_E
  | .inl (t, a) => .inl (cT t, mm_a A a)
  | .inr (ci, fs) => .inr (ci, fs.map (mm_v A))
def mm_W (A : Nat → Nat) (cT : Nat → Nat) : Nat → List va_E → va_W
  | _, [] => []
  | p, e :: r => (A (p + 1), mm_e A cT e) :: mm_W A cT (p + 1) r
theorem mm_W_get (A : Nat → Nat) (cT : Nat → Nat) : ∀ (g : List va_E) (p i : Nat), (mm_W A cT p g)[i]? = (g[i]?).map (fun e => (A (p + i + 1), mm_e A cT e))
  | [], p, i => by simp [mm_W]
  | e :: r, p, 0 => by simp [mm_W]
  | e :: r, p, i + 1 => by
    have := mm_W_get A cT r (p + 1) i
    simp only [mm_W, List.getElem?_cons_succ, this]
    rw [show p + 1 + i + 1 = p + (i + 1) + 1 by omega]
theorem mm_W_set (A : Nat → Nat) (cT : Nat → Nat) (e' : va_E) : ∀ (g : List va_E) (p i : Nat), (mm_W A cT p g).set i (A (p + i + 1), mm_e A cT e') = mm_W A cT p (g.set i e')
  | [], p, i => by simp [mm_W]
  | e :: r, p, 0 => by simp [mm_W]
  | e :: r, p, i + 1 => by
    have := mm_W_set A cT e' r (p + 1) i
    rw [show p + 1 + i + 1 = p + (i + 1) + 1 by omega] at this
    simp only [mm_W, List.set_cons_succ, this]
theorem mm_W_app (A : Nat → Nat) (cT : Nat → Nat) (e' : va_E) : ∀ (g : List va_E) (p : Nat), mm_W A cT p (g ++ [e']) = mm_W A cT p g ++ [(A (p + g.length + 1), mm_e A cT e')]
  | [], p => by simp [mm_W]
  | e :: r, p => by
    have := mm_W_app A cT e' r (p + 1)
    simp only [List.cons_append, mm_W, this, List.length_cons]
    rw [show p + 1 + r.length + 1 = p + (r.length + 1) + 1 by omega]
def mm_T (cT : Nat → Nat) : Nat → List FieldType → List (ClassId × FieldType)
  | _, [] => []
  | t, y :: r => (cT t, y) :: mm_T cT (t + 1) r
theorem mm_T_get (cT : Nat → Nat) : ∀ (l : List FieldType) (t i : Nat), (mm_T cT t l)[i]? = (l[i]?).map (fun y => (cT (t + i), y))
  | [], t, i => by simp [mm_T]
  | y :: r, t, 0 => by simp [mm_T]
  | y :: r, t, i + 1 => by
    have := mm_T_get cT r (t + 1) i
    simp only [mm_T, List.getElem?_cons_succ, this]
    rw [show t + 1 + i = t + (i + 1) by omega]
/-- what a heap is: the cells of g, the script, nothing else has changed since the method's start -/
def mm_R (D : va_G) (cl : List vw_C) (cT : Nat → Nat) (b z Ln : Nat) (xs : Nat → Int32) (s : State) (g : List va_E) (H : Heap) (locs : List Loc) : Prop :=
  H.size = z + g.length ∧ va_P D cl (mm_W (mm_A b z) cT 0 g) H ∧ va_S (fun q => z ≤ q) s.heap H locs ∧ va_X b Ln xs s s.heap ∧ b < z ∧ z ≤ s.heap.size
theorem mm_R.D {D : va_G} {cl : List vw_C} {cT : Nat → Nat} {b z Ln : Nat} {xs : Nat → Int32} {s : State} {g : List va_E} {H : Heap} {locs : List Loc} (_ : mm_R D cl cT b z Ln xs s g H locs) : va_D (fun q => z ≤ q) (mm_W (mm_A b z) cT 0 g) := by
  refine ⟨fun i j p q hi hj he => ?_, fun k q hk => ?_⟩
  · rw [mm_W_get] at hi hj
    obtain ⟨e1, h1, rfl⟩ := Option.map_eq_some_iff.mp hi
    obtain ⟨e2, h2, rfl⟩ := Option.map_eq_some_iff.mp hj
    simp only [mm_A] at he
    omega
  · rw [mm_W_get] at hk
    obtain ⟨e1, h1, rfl⟩ := Option.map_eq_some_iff.mp hk
    simp only [mm_A]
    omega
theorem mm_at {D : va_G} {cl : List vw_C} {cT : Nat → Nat} {b z Ln : Nat} {xs : Nat → Int32} {s : State} {g : List va_E} {H : Heap} {locs : List Loc} (_ : mm_R D cl cT b z Ln xs s g H locs) {q : Nat} {e : va_E} (h : g[q]? = some e) : (mm_W (mm_A b z) cT 0 g)[q]? = some (mm_A b z (q + 1), mm_e (mm_A b z) cT e) := by
  rw [mm_W_get, h]
  simp
theorem mm_R.set {D : va_G} {cl : List vw_C} {cT : Nat → Nat} {b z Ln : Nat} {xs : Nat → Int32} {s : State} {g : List va_E} {H H1 : Heap} {locs locs1 : List Loc} (r : mm_R D cl cT b z Ln xs s g H locs) {q : Nat} {e' : va_E}
    (hP : va_P D cl ((mm_W (mm_A b z) cT 0 g).set q (mm_A b z (q + 1), mm_e (mm_A b z) cT e')) H1) (hS : va_S (fun q => z ≤ q) s.heap H1 locs1) (hz : H1.size = H.size) : mm_R D cl cT b z Ln xs s (g.set q e') H1 locs1 := by
  obtain ⟨h1, -, -, h4, h5, h6⟩ := r
  have hW := mm_W_set (mm_A b z) cT e' g 0 q
  rw [Nat.zero_add] at hW
  rw [hW] at hP
  exact ⟨by rw [hz, h1, List.length_set], hP, hS, h4, h5, h6⟩
theorem mm_R.push {D : va_G} {cl : List vw_C} {cT : Nat → Nat} {b z Ln : Nat} {xs : Nat → Int32} {s : State} {g : List va_E} {H H1 : Heap} {locs : List Loc} (r : mm_R D cl cT b z Ln xs s g H locs) {e' : va_E}
    (hn : va_at D cl (H.size, mm_e (mm_A b z) cT e') H1) (hz : H1.size = H.size + 1) (ho : ∀ q, q < H.size → H1[q]? = H[q]?) : mm_R D cl cT b z Ln xs s (g ++ [e']) H1 locs := by
  obtain ⟨h1, h2, h3, h4, h5, h6⟩ := r
  have hA : mm_A b z (0 + g.length + 1) = H.size := by simp only [mm_A]; omega
  refine ⟨by rw [hz, h1, List.length_append]; rfl, ?_, ⟨by have := h3.1; omega, fun q hq hn => ?_, h3.2.2⟩, h4, h5, h6⟩
  · rw [mm_W_app, hA]
    refine (h2.kept fun k x hx => ho _ (h2 k x hx).lt).app (fun k x hx => ?_)
    have hk : k = 0 := by
      have := (List.getElem?_eq_some_iff.mp hx).1
      simp at this
      omega
    subst hk
    cases hx
    exact hn
  · rw [ho q (by have := h3.1; omega)]
    exact h3.2.1 q hq hn
theorem mm_R.X {D : va_G} {cl : List vw_C} {cT : Nat → Nat} {b z Ln : Nat} {xs : Nat → Int32} {s : State} {g : List va_E} {H : Heap} {locs : List Loc} (r : mm_R D cl cT b z Ln xs s g H locs) : va_X b Ln xs s H := by
  obtain ⟨h1, h2, h3, ⟨scr, q1, q2, q3, q4, q5⟩, h5, h6⟩ := r
  exact ⟨scr, by rw [h3.2.1 b (by omega) (by omega)]; exact q1, q2, q3, q4, q5⟩
end
section
/-! ONE STEP, the part that touches no cell. nx: what must hold of the next state. -/
/-- an instruction's length (a switch's is not told here) -/
def mm_ln (ins : Instr) : Nat := match ins with
  | .bipush _ | .iload _ | .lload _ | .aload _ | .istore _ | .lstore _ | .astore _ | .newarray _ | .ldc _ => 2
  | .sipush _ | .goto _ | .ifCond _ _ | .if_icmp _ _ | .if_acmp _ _ | .ifnull _ | .ifnonnull _ | .iinc _ _ | .getfield _ | .putfield _ | .getstatic _ | .new _ | .anewarray _
  | .invokevirtual _ | .invokespecial _ | .invokestatic _ | .ldc_w _ | .ldc2_w _ => 3
  | _ => 1
theorem mm_con_ln {ins : Instr} {v : Value} {n : Nat} (h : mm_con ins = some (v, n)) : mm_ln ins = n := by
  unfold mm_con at h
  split at h <;> cases h <;> rfl
theorem mm_ld_ln {ins : Instr} {i n kd : Nat} (h : mm_ld ins = some (i, n, kd)) : mm_ln ins = n := by
  unfold mm_ld at h
  split at h <;> cases h <;> rfl
theorem mm_sto_ln {ins : Instr} {i n kd : Nat} (h : mm_sto ins = some (i, n, kd)) : mm_ln ins = n := by
  unfold mm_sto at h
  split at h <;> cases h <;> rfl
theorem mm_bin_ln {ins : Instr} {f : Int32 → Int32 → Int32} (h : mm_bin ins = some f) : mm_ln ins = 1 := by
  unfold mm_bin at h
  split at h <;> cases h <;> rfl
theorem mm_binL_ln {ins : Instr} {f : Int64 → Int64 → Int64} (h : mm_binL ins = some f) : mm_ln ins = 1 := by
  unfold mm_binL at h
  split at h <;> cases h <;> rfl
theorem mm_div_ln {ins : Instr} {f : Int32 → Int32 → Int32} (h : mm_div ins = some f) : mm_ln ins = 1 := by
  unfold mm_div at h
  split at h <;> cases h <;> rfl
theorem mm_divL_ln {ins : Instr} {f : Int64 → Int64 → Int64} (h : mm_divL ins = some f) : mm_ln ins = 1 := by
  unfold mm_divL at h
  split at h <;> cases h <;> rfl
theorem mm_un_ln {ins : Instr} {v w : Value} (h : mm_un ins v = some w) : mm_ln ins = 1 := by
  unfold mm_un at h
  split at h <;> cases h <;> rfl
theorem mm_stk_ln {ins : Instr} {st st' : List Value} (h : mm_stk ins st = some st') : mm_ln ins = 1 := by
  unfold mm_stk at h
  split at h <;> first | (cases h; done) | rfl
theorem mm_br_ln {ins : Instr} {st st' : List Value} {P : Prop} {o : Int} (h : mm_br ins st = some (P, o, st')) : mm_ln ins = 3 := by
  unfold mm_br at h
  split at h <;> cases h <;> rfl
/-- where a branch goes -/
def mm_tgt (pc : Nat) (o : Int) : Option Nat := match (pc : Int) + o with
  | .ofNat t => some t
  | .negSucc _ => none
theorem mm_tgt_ok {pc t : Nat} {o : Int} (h : mm_tgt pc o = some t) : (pc : Int) + o = (t : Int) := by
  unfold mm_tgt at h
  split at h
  · rename_i t' he
    cases h
    exact he
  · cases h
def mm_s1 (nL : Nat) (nx : Nat → List (Nat × Value) → List Value → Prop) (ins : Instr) (pc : Nat) (ls : List (Nat × Value)) (st : List Value) : Option Prop :=
  match mm_con ins with
  | some (v, _) => some (nx (pc + mm_ln ins) ls (v :: st))
  | none =>
  match mm_ld ins with
  | some (i, _, kd) => match mm_get ls i with
    | some v => match mm_kind kd v with
      | true => some (nx (pc + mm_ln ins) ls (v :: st))
      | false => some False
    | none => some False
  | none =>
  match mm_sto ins with
  | some (i, _, kd) => match st with
    | v :: r => match mm_kind kd v with
      | true => match decide (i + v.category ≤ nL) with
        | true => some (nx (pc + mm_ln ins) (if v.category = 2 then mm_set2 ls i v else mm_set1 ls i v) r)
        | false => some False
      | false => some False
    | [] => some False
  | none =>
  match mm_bin ins with
  | some f => match st with
    | .int y :: .int x :: r => some (nx (pc + 1) ls (.int (f x y) :: r))
    | _ => some False
  | none =>
  match mm_br ins st with
  | some (c, o, r) => match mm_tgt pc o with
    | some t => some ((c → nx t ls r) ∧ (¬ c → nx (pc + 3) ls r))
    | none => some False
  | none =>
  match mm_stk ins st with
  | some r => some (nx (pc + 1) ls r)
  | none =>
  match mm_binL ins with
  | some f => match st with
    | .long y :: .long x :: r => some (nx (pc + 1) ls (.long (f x y) :: r))
    | _ => some False
  | none =>
  match mm_div ins with
  | some f => match st with
    | .int y :: .int x :: r => some (¬ y = 0 ∧ nx (pc + 1) ls (.int (f x y) :: r))
    | _ => some False
  | none =>
  match mm_divL ins with
  | some f => match st with
    | .long y :: .long x :: r => some (¬ y = 0 ∧ nx (pc + 1) ls (.long (f x y) :: r))
    | _ => some False
  | none =>
  match ins with
  | .goto o => match mm_tgt pc o with
    | some t => some (nx t ls st)
    | none => some False
  | .iinc i c => match mm_get ls i with
    | some (.int x) => match decide (i < nL) with
      | true => some (nx (pc + 3) (mm_set1 ls i (.int (x + Int32.ofInt c))) st)
      | false => some False
    | _ => some False
  | .ifnull o => match st with
    | .null :: r => match mm_tgt pc o with
      | some t => some (nx t ls r)
      | none => some False
    | .ref _ :: r => some (nx (pc + 3) ls r)
    | _ => some False
  | .ifnonnull o => match st with
    | .ref _ :: r => match mm_tgt pc o with
      | some t => some (nx t ls r)
      | none => some False
    | .null :: r => some (nx (pc + 3) ls r)
    | _ => some False
  | .lcmp => match st with
    | .long y :: .long x :: r => some (nx (pc + 1) ls (.int (lg_cmp x y) :: r))
    | _ => some False
  | _ => match st with
    | v :: r => match mm_un ins v with
      | some w => some (nx (pc + 1) ls (w :: r))
      | none => none
    | [] => none
section MmS1
variable {p : Program} {l : Launch} {e : Env} {R : Room} {s : State} {m : MethodId} {args : Array Value} {below : List Frame} {meth : Method} {c : Code} {H : Heap} {locs : List Loc} {cells slots : Nat} {Q : State → Prop} {cc : ByteArray} {pc : Nat} {ins : Instr} {L : Array Slot} {nL : Nat} {A : Nat → Nat} {ls : List (Nat × Value)} {st : List Value}
set_option maxHeartbeats 1000000 in
theorem mm_s1_ok (hx : p.tables.exec = Jvm.exec) (hb : c.code = cc) {nx : Nat → List (Nat × Value) → List Value → Prop} {X : Prop} (h : mm_s1 nL nx ins pc ls st = some X) (hX : X) (hdg : decode cc pc = .ok (ins, mm_ln ins)) (hl : lv_has L nL (mm_L A ls))
    (k : ∀ pc' ls' st' L', nx pc' ls' st' → lv_has L' nL (mm_L A ls') → W p l e R s m args below meth c H locs cells slots Q (F0 m pc' L' (mm_S A st'))) : W p l e R s m args below meth c H locs cells slots Q (F0 m pc L (mm_S A st)) := by
  unfold mm_s1 at h
  split at h
  · rename_i v n hc
    cases h
    have hn := mm_con_ln hc
    rw [hn] at hdg hX
    exact mm_con_ok (A := A) hx hb hc hdg (k _ _ _ L hX hl)
  split at h
  · rename_i i n kd hc
    have hn := mm_ld_ln hc
    rw [hn] at hdg h
    split at h
    · rename_i v hv
      split at h
      · rename_i hk
        cases h
        exact mm_ld_ok (A := A) hx hb hc (mm_get_has hl hv) hk hdg (k _ _ _ L hX hl)
      · cases h; exact hX.elim
    · cases h; exact hX.elim
  split at h
  · rename_i i n kd hc
    have hn := mm_sto_ln hc
    rw [hn] at hdg h
    split at h
    · rename_i v r
      split at h
      · rename_i hk
        split at h
        · rename_i hd
          cases h
          have hd := of_decide_eq_true hd
          refine mm_sto_ok (A := A) hx hb hc hk hl ?_ hdg (fun L' hl' => k _ _ _ L' hX hl')
          rcases lv_cat v with q | q
          · exact Or.inr ⟨by omega, q⟩
          · exact Or.inl (by omega)
        · cases h; exact hX.elim
      · cases h; exact hX.elim
    · cases h; exact hX.elim
  split at h
  · rename_i f hc
    rw [mm_bin_ln hc] at hdg
    split at h
    · cases h; exact mm_bin_ok hx hb hc hdg (k _ _ _ L hX hl)
    · cases h; exact hX.elim
  split at h
  · rename_i c' o r hc
    rw [mm_br_ln hc] at hdg
    split at h
    · rename_i t ht
      cases h
      exact mm_br_ok (A := A) hx hb hc hdg (mm_tgt_ok ht) (fun q => k _ _ _ L (hX.1 q) hl) (fun q => k _ _ _ L (hX.2 q) hl)
    · cases h; exact hX.elim
  split at h
  · rename_i r hc
    rw [mm_stk_ln hc] at hdg
    cases h; exact mm_stk_ok (A := A) hx hb hc hdg (k _ _ _ L hX hl)
  split at h
  · rename_i f hc
    rw [mm_binL_ln hc] at hdg
    split at h
    · cases h; exact mm_binL_ok hx hb hc hdg (k _ _ _ L hX hl)
    · cases h; exact hX.elim
  split at h
  · rename_i f hc
    rw [mm_div_ln hc] at hdg
    split at h
    · cases h; exact mm_div_ok hx hb hc hX.1 hdg (k _ _ _ L hX.2 hl)
    · cases h; exact hX.elim
  split at h
  · rename_i f hc
    rw [mm_divL_ln hc] at hdg
    split at h
    · cases h; exact mm_divL_ok hx hb hc hX.1 hdg (k _ _ _ L hX.2 hl)
    · cases h; exact hX.elim
  split at h
  · split at h
    · rename_i t ht
      cases h; exact lv_goto hx hb hdg (mm_tgt_ok ht) (k _ _ _ L hX hl)
    · cases h; exact hX.elim
  · split at h
    · rename_i x hv
      split at h
      · rename_i hd
        cases h
        have hm := mm_get_mem hv
        have hm2 : (_, Value.int x) ∈ mm_L A ls := List.mem_map.mpr ⟨_, hm, rfl⟩
        obtain ⟨j, hj⟩ := List.getElem?_of_mem hm2
        exact lv_iinc hx hb hdg hl (k := j) hj rfl (of_decide_eq_true hd) (mm_set1_L A ls _ (.int _)) (fun L' hl' => k _ _ _ L' hX hl')
      · cases h; exact hX.elim
    · cases h; exact hX.elim
  · split at h
    · split at h
      · rename_i t ht
        cases h; exact lv_ifnullN hx hb hdg (mm_tgt_ok ht) (k _ _ _ L hX hl)
      · cases h; exact hX.elim
    · cases h; exact lv_ifnull hx hb hdg (k _ _ _ L hX hl)
    · cases h; exact hX.elim
  · split at h
    · split at h
      · rename_i t ht
        cases h; exact lv_ifnonnull hx hb hdg (mm_tgt_ok ht) (k _ _ _ L hX hl)
      · cases h; exact hX.elim
    · cases h; exact lv_ifnonnullN hx hb hdg (k _ _ _ L hX hl)
    · cases h; exact hX.elim
  · split at h
    · cases h; exact W.lcmp hx hb hdg (k _ _ _ L hX hl)
    · cases h; exact hX.elim
  · split at h
    · split at h
      · rename_i w hc
        rw [mm_un_ln hc] at hdg
        cases h; exact mm_un_ok (A := A) hx hb hc hdg (k _ _ _ L hX hl)
      · cases h
    · cases h
end MmS1
end
section
/-! ONE STEP that touches cells. -/
theorem mm_R.put {D : va_G} {cl : List vw_C} {cT : Nat → Nat} {b z Ln : Nat} {xs : Nat → Int32} {s : State} {g : List va_E} {H H1 : Heap} {locs : List Loc} (r : mm_R D cl cT b z Ln xs s g H locs) {q : Nat} {e0 e' : va_E} (hq : g[q]? = some e0)
    (he : va_at D cl (mm_A b z (q + 1), mm_e (mm_A b z) cT e') H1) (hz : H1.size = H.size) (oq : ∀ x : Nat, x ≠ mm_A b z (q + 1) → H1[x]? = H[x]?) (i : Nat) : mm_R D cl cT b z Ln xs s (g.set q e') H1 (locs ++ [⟨mm_A b z (q + 1), i⟩]) :=
  r.set (r.2.1.set r.D (mm_at r hq) he oq) (r.2.2.1.put hz oq (by show z ≤ mm_A b z (q + 1); simp only [mm_A]; omega)) hz
theorem mm_cell_i (A : Nat → Nat) (cA : ClassId) (n : Nat) (f : Nat → Int32) : vp_cell cA (mm_a A (n, .inl f)) = arrV cA n (fun j => .int (f j)) := rfl
theorem mm_cell_l (A : Nat → Nat) (cA : ClassId) (n : Nat) (f : Nat → Int64) : vp_cell cA (mm_a A (n, .inr (.inl f))) = arrV cA n (fun j => .long (f j)) := rfl
theorem mm_cell_q (A : Nat → Nat) (cA : ClassId) (n : Nat) (f : Nat → Option Nat) : vp_cell cA (mm_a A (n, .inr (.inr (.inr (.inr f))))) = arrV cA n (fun j => va_rf ((f j).map A)) := rfl
section MmCell
variable {p : Program} {l : Launch} {e : Env} {R : Room} {s : State} {m : MethodId} {args : Array Value} {below : List Frame} {meth : Method} {c : Code} {H : Heap} {locs : List Loc} {cells slots : Nat} {Q : State → Prop} {cc : ByteArray} {pc : Nat} {L : Array Slot} {D : va_G} {cl : List vw_C} {cT : Nat → Nat} {b z Ln : Nat} {xs : Nat → Int32} {g : List va_E} {rest : List Value} {tyl : List FieldType} {TB : List Cond}
theorem mm_getf_ok (hx : p.tables.exec = Jvm.exec) (hb : c.code = cc) {own C : String} {T : u_T} {N ci index j q : Nat} {fs : List Value} {v : Value} (hts : ∀ w ∈ TB, w.before args s = true) (hin : ∀ w ∈ u_ws C T N, w ∈ TB) (hown : s.vm.findClass own = some m.cls) (hK : va_K D cl (mm_T cT 0 tyl) s) (hR : mm_R D cl cT b z Ln xs s g H locs)
    (hq : g[q]? = some (.inr (ci, fs))) (hc : cl[ci]? = some (C, T, N)) (hj : j < N) (hlink : Cond.fieldLink own index (T j).1 (T j).2.1 (T j).2.2.1 ∈ TB) (hv : fs[j]? = some v) (hdg : decode cc pc = .ok (.getfield index, 3))
    (k : W p l e R s m args below meth c H locs cells slots Q (F0 m (pc + 3) L (mm_v (mm_A b z) v :: rest))) : W p l e R s m args below meth c H locs cells slots Q (F0 m pc L (.ref (mm_A b z (q + 1)) :: rest)) :=
  va_get (fs := fs.map (mm_v (mm_A b z))) hx hb hts hin hown hK hR.2.1 q (mm_at hR hq) hc j hj (hts _ hlink) (fun _ h => h) (by rw [List.getElem?_map, hv]; rfl) hdg k
theorem mm_putf_ok (hx : p.tables.exec = Jvm.exec) (hb : c.code = cc) {own C : String} {T : u_T} {N ci index j q : Nat} {fs : List Value} {v : Value} {ft : Nat → FieldType} (hts : ∀ w ∈ TB, w.before args s = true) (hin : ∀ w ∈ u_ws C T N, w ∈ TB) (hown : s.vm.findClass own = some m.cls) (hK : va_K D cl (mm_T cT 0 tyl) s) (hR : mm_R D cl cT b z Ln xs s g H locs)
    (hq : g[q]? = some (.inr (ci, fs))) (hc : cl[ci]? = some (C, T, N)) (hj : j < N) (hlink : Cond.fieldLink own index (T j).1 (T j).2.1 (T j).2.2.1 ∈ TB) (hty : ∀ k, k < N → parseFieldDescriptor (T k).2.2.1 = some (ft k)) (hnm : ∀ a, a < N → ∀ b, b < N → a ≠ b → (T a).2.1 ≠ (T b).2.1)
    (hfin : (T j).2.2.2 = false ∨ ((T j).2.2.2 = true ∧ meth.name = "<init>" ∧ (T j).1 = own)) (hn : narrow (ft j) (mm_v (mm_A b z) v) = mm_v (mm_A b z) v) (hfit : fits (ft j) (mm_v (mm_A b z) v) = true) (hl : j < fs.length) (hdg : decode cc pc = .ok (.putfield index, 3))
    (k : ∀ H' i, mm_R D cl cT b z Ln xs s (g.set q (.inr (ci, fs.set j v))) H' (locs ++ [⟨mm_A b z (q + 1), i⟩]) → W p l e R s m args below meth c H' (locs ++ [⟨mm_A b z (q + 1), i⟩]) cells slots Q (F0 m (pc + 3) L rest)) : W p l e R s m args below meth c H locs cells slots Q (F0 m pc L (mm_v (mm_A b z) v :: .ref (mm_A b z (q + 1)) :: rest)) := by
  have hap := va_apart (own := own) hts hin ft hty hnm hK hc
  obtain ⟨r, h1, cell, q1, q2, q3, q4⟩ := hR.2.1 q _ (mm_at hR hq)
  have hr : r = (C, T, N) := Option.some.inj (h1.symm.trans hc)
  subst hr
  obtain ⟨hS, hfc, kC, hkC, hkind⟩ := hK.1 ci _ hc
  obtain ⟨cf, kf, fi, f, hi, hsl⟩ := hS j hj
  have hst := (u_facts hfc hkC (u_lays hts hin hj) hi).1
  have hlen : j < (fs.map (mm_v (mm_A b z))).length := by rw [List.length_map]; exact hl
  have fin : ∀ H' : Heap, H'[mm_A b z (q + 1)]? = some (cell.setSlot (D.2 ci j) (mm_v (mm_A b z) v)) → H'.size = H.size → (∀ x : Nat, x ≠ mm_A b z (q + 1) → H'[x]? = H[x]?) → W p l e R s m args below meth c H' (locs ++ [⟨mm_A b z (q + 1), D.2 ci j⟩]) cells slots Q (F0 m (pc + 3) L rest) := by
    intro H' e1 e2 e3
    refine k H' _ (hR.put hq ?_ e2 e3 _)
    refine ⟨_, hc, t_OB.to (V := updV (vp_V (fs.map (mm_v (mm_A b z)))) j (mm_v (mm_A b z) v)) ⟨_, e1, q2, q3, t_set q4 hap hj _⟩ (fun i _ => ?_)⟩
    rw [vp_updV_set hlen, ← List.map_set]
  have hlay := hts _ (hin _ (u_in_lay hj))
  unfold u_lay at hlay
  rcases hfin with hf | ⟨hf, hin2, hdecl⟩
  · rw [if_neg (by rw [hf]; decide)] at hlay
    have h6 := u_store hfc hkC hkind hlay hi (hty j hj) hn hfit
    refine W.putK hx hb (f := f) ⟨hown, hts _ hlink, ⟨_, _, _, hi⟩, hst⟩ (by rw [q2]; exact h6) q1 q3 (by rw [hsl]; exact k2_hasslot (q4 j hj)) rfl rfl hdg fun H' e1 e2 e3 => ?_
    rw [hsl] at e1 ⊢
    exact fin H' e1 e2 e3
  · rw [if_pos hf] at hlay
    have hcf : m.cls = cf := by
      obtain ⟨_, _, c', _, _, _, -, -, hf', -, -, -, hown2, -⟩ := Cond.laysFinal_spec hlay
      have e1 : c' = cf := by have := hi.symm.trans hf'; simp at this; exact this.1.symm
      rw [hdecl] at hown2
      rw [← e1]; exact Option.some.inj (hown.symm.trans hown2)
    have h6 := u_fits hfc hkC hkind (Or.inr hlay) hi (hty j hj) hn hfit
    refine W.putFinK hx hb hown (hts _ hlink) hi hst hcf hin2 (by rw [q2]; exact h6) q1 q3 (by rw [hsl]; exact k2_hasslot (q4 j hj)) rfl rfl hdg fun H' e1 e2 e3 => ?_
    rw [hsl] at e1 ⊢
    exact fin H' e1 e2 e3
theorem mm_ty (hK : va_K D cl (mm_T cT 0 tyl) s) {t : Nat} {ty : FieldType} (h : tyl[t]? = some ty) : (mm_T cT 0 tyl)[t]? = some (cT t, ty) := by
  rw [mm_T_get, h]
  simp
theorem mm_iast_ok (hx : p.tables.exec = Jvm.exec) (hb : c.code = cc) {q t n : Nat} {f : Nat → Int32} {i x : Int32} (hK : va_K D cl (mm_T cT 0 tyl) s) (hR : mm_R D cl cT b z Ln xs s g H locs) (hq : g[q]? = some (.inl (t, n, .inl f))) (ht : tyl[t]? = some .int) (hin : vp_in i n) (hdg : decode cc pc = .ok (.iastore, 1))
    (k : ∀ H' j, mm_R D cl cT b z Ln xs s (g.set q (.inl (t, n, .inl (upd f i.toNatClampNeg x)))) H' (locs ++ [⟨mm_A b z (q + 1), j⟩]) → W p l e R s m args below meth c H' (locs ++ [⟨mm_A b z (q + 1), j⟩]) cells slots Q (F0 m (pc + 1) L rest)) : W p l e R s m args below meth c H locs cells slots Q (F0 m pc L (.int x :: .int i :: .ref (mm_A b z (q + 1)) :: rest)) := by
  refine W.iast hx hb (hR.2.1 q _ (mm_at hR hq)) ((hK.2 t _ (mm_ty hK ht)).1 n (fun j => .int (f j))) (fun q => by cases q) (by show ¬ (i < 0 ∨ (arrV _ _ _).slots.size ≤ _); rw [arrV_size]; exact hin) rfl rfl hdg fun H1 e z oq => k H1 _ (hR.put hq ?_ z oq _)
  show H1[_]? = some (vp_cell _ _)
  rw [e]
  dsimp only
  rw [mm_cell_i, mm_cell_i, arrV_store]
  congr 2
  funext w
  by_cases hw : w = i.toNatClampNeg
  · subst hw; simp [updV, upd]
  · simp [updV, upd, hw]
theorem mm_zast_ok (hx : p.tables.exec = Jvm.exec) (hb : c.code = cc) {q t n : Nat} {f : Nat → Int32} {i x : Int32} (hK : va_K D cl (mm_T cT 0 tyl) s) (hR : mm_R D cl cT b z Ln xs s g H locs) (hq : g[q]? = some (.inl (t, n, .inl f))) (ht : tyl[t]? = some .boolean) (hin : vp_in i n) (hdg : decode cc pc = .ok (.bastore, 1))
    (k : ∀ H' j, mm_R D cl cT b z Ln xs s (g.set q (.inl (t, n, .inl (upd f i.toNatClampNeg (vp_nar .boolean x))))) H' (locs ++ [⟨mm_A b z (q + 1), j⟩]) → W p l e R s m args below meth c H' (locs ++ [⟨mm_A b z (q + 1), j⟩]) cells slots Q (F0 m (pc + 1) L rest)) : W p l e R s m args below meth c H locs cells slots Q (F0 m pc L (.int x :: .int i :: .ref (mm_A b z (q + 1)) :: rest)) := by
  refine W.zast hx hb (hR.2.1 q _ (mm_at hR hq)) ((hK.2 t _ (mm_ty hK ht)).1 n (fun j => .int (f j))) (fun q => by cases q) (by show ¬ (i < 0 ∨ (arrV _ _ _).slots.size ≤ _); rw [arrV_size]; exact hin) rfl rfl hdg fun H1 e z oq => k H1 _ (hR.put hq ?_ z oq _)
  show H1[_]? = some (vp_cell _ _)
  rw [e]
  dsimp only
  rw [mm_cell_i, mm_cell_i, arrV_store]
  congr 2
  funext w
  by_cases hw : w = i.toNatClampNeg
  · subst hw; simp [updV, upd, vp_nar]; try rfl
  · simp [updV, upd, hw]
theorem mm_cast_ok (hx : p.tables.exec = Jvm.exec) (hb : c.code = cc) {q t n : Nat} {f : Nat → Int32} {i x : Int32} (hK : va_K D cl (mm_T cT 0 tyl) s) (hR : mm_R D cl cT b z Ln xs s g H locs) (hq : g[q]? = some (.inl (t, n, .inl f))) (ht : tyl[t]? = some .char) (hin : vp_in i n) (hdg : decode cc pc = .ok (.castore, 1))
    (k : ∀ H' j, mm_R D cl cT b z Ln xs s (g.set q (.inl (t, n, .inl (upd f i.toNatClampNeg (vp_nar .char x))))) H' (locs ++ [⟨mm_A b z (q + 1), j⟩]) → W p l e R s m args below meth c H' (locs ++ [⟨mm_A b z (q + 1), j⟩]) cells slots Q (F0 m (pc + 1) L rest)) : W p l e R s m args below meth c H locs cells slots Q (F0 m pc L (.int x :: .int i :: .ref (mm_A b z (q + 1)) :: rest)) := by
  refine W.cast hx hb (hR.2.1 q _ (mm_at hR hq)) ((hK.2 t _ (mm_ty hK ht)).1 n (fun j => .int (f j))) (fun q => by cases q) (by show ¬ (i < 0 ∨ (arrV _ _ _).slots.size ≤ _); rw [arrV_size]; exact hin) rfl rfl hdg fun H1 e z oq => k H1 _ (hR.put hq ?_ z oq _)
  show H1[_]? = some (vp_cell _ _)
  rw [e]
  dsimp only
  rw [mm_cell_i, mm_cell_i, arrV_store]
  congr 2
  funext w
  by_cases hw : w = i.toNatClampNeg
  · subst hw; simp [updV, upd, vp_nar]; try rfl
  · simp [updV, upd, hw]
theorem mm_last_ok (hx : p.tables.exec = Jvm.exec) (hb : c.code = cc) {q t n : Nat} {f : Nat → Int64} {i : Int32} {x : Int64} (hK : va_K D cl (mm_T cT 0 tyl) s) (hR : mm_R D cl cT b z Ln xs s g H locs) (hq : g[q]? = some (.inl (t, n, .inr (.inl f)))) (ht : tyl[t]? = some .long) (hin : vp_in i n) (hdg : decode cc pc = .ok (.lastore, 1))
    (k : ∀ H' j, mm_R D cl cT b z Ln xs s (g.set q (.inl (t, n, .inr (.inl (vp_updL f i.toNatClampNeg x))))) H' (locs ++ [⟨mm_A b z (q + 1), j⟩]) → W p l e R s m args below meth c H' (locs ++ [⟨mm_A b z (q + 1), j⟩]) cells slots Q (F0 m (pc + 1) L rest)) : W p l e R s m args below meth c H locs cells slots Q (F0 m pc L (.long x :: .int i :: .ref (mm_A b z (q + 1)) :: rest)) := by
  refine W.last hx hb (hR.2.1 q _ (mm_at hR hq)) ((hK.2 t _ (mm_ty hK ht)).1 n (fun j => .long (f j))) (fun q => by cases q) (by show ¬ (i < 0 ∨ (arrV _ _ _).slots.size ≤ _); rw [arrV_size]; exact hin) rfl rfl hdg fun H1 e z oq => k H1 _ (hR.put hq ?_ z oq _)
  show H1[_]? = some (vp_cell _ _)
  rw [e]
  dsimp only
  rw [mm_cell_l, mm_cell_l, arrV_store]
  congr 2
  funext w
  by_cases hw : w = i.toNatClampNeg
  · subst hw; simp [updV, vp_updL]
  · simp [updV, vp_updL, hw]
theorem mm_aast_ok (hx : p.tables.exec = Jvm.exec) (hb : c.code = cc) {q q2 t n ci : Nat} {r : vw_C} {vs : List Value} {f : Nat → Option Nat} {i : Int32} (hK : va_K D cl (mm_T cT 0 tyl) s) (hR : mm_R D cl cT b z Ln xs s g H locs) (hq : g[q]? = some (.inl (t, n, .inr (.inr (.inr (.inr f)))))) (ht : tyl[t]? = some (.object r.1)) (hv : g[q2]? = some (.inr (ci, vs))) (hc : cl[ci]? = some r) (hin : vp_in i n) (hdg : decode cc pc = .ok (.aastore, 1))
    (k : ∀ H' j, mm_R D cl cT b z Ln xs s (g.set q (.inl (t, n, .inr (.inr (.inr (.inr (va_up f i.toNatClampNeg (some (q2 + 1))))))))) H' (locs ++ [⟨mm_A b z (q + 1), j⟩]) → W p l e R s m args below meth c H' (locs ++ [⟨mm_A b z (q + 1), j⟩]) cells slots Q (F0 m (pc + 1) L rest)) : W p l e R s m args below meth c H locs cells slots Q (F0 m pc L (.ref (mm_A b z (q2 + 1)) :: .int i :: .ref (mm_A b z (q + 1)) :: rest)) := by
  have hlt : i.toNatClampNeg < n := Nat.not_le.mp fun q => hin (Or.inr q)
  have h0 : ¬ i < 0 := fun q => hin (Or.inl q)
  obtain ⟨r', hr', cellV, g1, g2, g3, -⟩ := hR.2.1 q2 _ (mm_at hR hv)
  have hcls := (hK.1 ci r hc).2
  obtain ⟨kA, comp, k1, k2, k3, -⟩ := (hK.2 t _ (mm_ty hK ht)).2
  have hcomp : comp = D.1 ci := Option.some.inj (k3.symm.trans hcls.1)
  subst hcomp
  obtain ⟨kC, hkC, -⟩ := hcls.2
  refine W.aast hx hb (hR.2.1 q _ (mm_at hR hq)) (fun q h => by cases h) (fun h => by cases h) k1 k2 rfl hkC ⟨h0, by show _ < (arrV _ _ _).slots.size; rw [arrV_size]; exact hlt⟩ g1 (fun q h => by rw [g3] at h; cases h) (by rw [g2]; exact hkC) (by rw [g2]; exact va_assign hcls) rfl rfl hdg fun H1 e z oq => k H1 _ (hR.put hq ?_ z oq _)
  show H1[_]? = some (vp_cell _ _)
  rw [e]
  dsimp only
  rw [mm_cell_q, mm_cell_q, arrV_store]
  congr 2
  funext w
  by_cases hw : w = i.toNatClampNeg
  · subst hw; simp [updV, va_up, va_rf]
  · simp [updV, va_up, hw]
theorem mm_new_ok (hx : p.tables.exec = Jvm.exec) (hb : c.code = cc) {own C : String} {T : u_T} {N ci index : Nat} {dv : List Value} {ft : Nat → FieldType} (hts : ∀ w ∈ TB, w.before args s = true) (hin : ∀ w ∈ u_ws C T N, w ∈ TB) (hown : s.vm.findClass own = some m.cls) (hK : va_K D cl (mm_T cT 0 tyl) s) (hR : mm_R D cl cT b z Ln xs s g H locs)
    (hc : cl[ci]? = some (C, T, N)) (hty : ∀ k, k < N → parseFieldDescriptor (T k).2.2.1 = some (ft k)) (hcl : Cond.classLink own index C ∈ TB) (hinst : Cond.instantiable C N ∈ TB) (hini : Cond.initialized C ∈ TB) (hdv : ∀ j, j < N → defaultValue (ft j) = vp_V (dv.map (mm_v (mm_A b z))) j) (hcells : cells + 1 ≤ R.cells) (hslots : slots + N ≤ R.slots) (hdg : decode cc pc = .ok (.new index, 3))
    (k : ∀ H', mm_R D cl cT b z Ln xs s (g ++ [.inr (ci, dv)]) H' locs → W p l e R s m args below meth c H' locs (cells + 1) (slots + N) Q (F0 m (pc + 3) L (.ref (mm_A b z (g.length + 1)) :: rest))) : W p l e R s m args below meth c H locs cells slots Q (F0 m pc L rest) := by
  have hKn := hK.1 ci _ hc
  have hA : mm_A b z (g.length + 1) = H.size := by rw [hR.1]; rfl
  refine W.newcK hx hb hown (hts _ hcl) (hts _ hinst) (hts _ hini) rfl hdg hcells hslots hKn.2.1 rfl fun H1 kC hkC e1 z1 o1 => ?_
  rw [hA] at k
  exact k H1 (hR.push ⟨_, hc, (u_born ft hts hin hKn hkC e1 hty).to hdv⟩ z1 o1)
theorem mm_newa_ok (hx : p.tables.exec = Jvm.exec) (hb : c.code = cc) {at' : ArrayType} {t N : Nat} {a0 : vp_A} {n : Int32} (hts : ∀ w ∈ TB, w.before args s = true) (hK : va_K D cl (mm_T cT 0 tyl) s) (hR : mm_R D cl cT b z Ln xs s g H locs)
    (ht : tyl[t]? = some (newarray.typeOf at')) (harr : Cond.arrayClass (newarray.typeOf at') ∈ TB) (ha : ∀ cA : ClassId, vp_cell cA (mm_a (mm_A b z) a0) = arrV cA N (fun _ => defaultValue (newarray.typeOf at'))) (hn : ¬ n < 0) (hN : n.toNatClampNeg = N) (hbytes : N * componentBytes (newarray.typeOf at') ≤ 536870912) (hcells : cells + 1 ≤ R.cells) (hslots : slots + N ≤ R.slots) (hdg : decode cc pc = .ok (.newarray at', 2))
    (k : ∀ H', mm_R D cl cT b z Ln xs s (g ++ [.inl (t, a0)]) H' locs → W p l e R s m args below meth c H' locs (cells + 1) (slots + N) Q (F0 m (pc + 2) L (.ref (mm_A b z (g.length + 1)) :: rest))) : W p l e R s m args below meth c H locs cells slots Q (F0 m pc L (.int n :: rest)) := by
  have hA : mm_A b z (g.length + 1) = H.size := by rw [hR.1]; rfl
  refine va_newaK hx hb (hts _ harr) rfl hdg rfl hn hN hbytes hcells hslots rfl fun H1 cA e1 z1 o1 hAr hNm => ?_
  rw [hA] at k
  have hcA : cA = cT t := by
    have h := (hK.2 t _ (mm_ty hK ht)).2
    have h2 : s.vm.findClass ("[" ++ (newarray.typeOf at').toString) = some (cT t) := by cases at' <;> exact h
    exact Option.some.inj (hNm.symm.trans h2)
  subst hcA
  refine k H1 (hR.push ?_ z1 o1)
  show H1[H.size]? = some (vp_cell _ _)
  rw [ha]
  exact e1
theorem mm_newq_ok (hx : p.tables.exec = Jvm.exec) (hb : c.code = cc) {own C : String} {index t N : Nat} {n : Int32} (hts : ∀ w ∈ TB, w.before args s = true) (hown : s.vm.findClass own = some m.cls) (hK : va_K D cl (mm_T cT 0 tyl) s) (hR : mm_R D cl cT b z Ln xs s g H locs)
    (ht : tyl[t]? = some (.object C)) (hclink : Cond.classLink own index C ∈ TB) (hover : Cond.arrayOver (.object C) ∈ TB) (hn : ¬ n < 0) (hN : n.toNatClampNeg = N) (hbytes : N * 4 ≤ 536870912) (hcells : cells + 1 ≤ R.cells) (hslots : slots + N ≤ R.slots) (hdg : decode cc pc = .ok (.anewarray index, 3))
    (k : ∀ H', mm_R D cl cT b z Ln xs s (g ++ [.inl (t, N, .inr (.inr (.inr (.inr (fun _ => none)))))]) H' locs → W p l e R s m args below meth c H' locs (cells + 1) (slots + N) Q (F0 m (pc + 3) L (.ref (mm_A b z (g.length + 1)) :: rest))) : W p l e R s m args below meth c H locs cells slots Q (F0 m pc L (.int n :: rest)) := by
  have hA : mm_A b z (g.length + 1) = H.size := by rw [hR.1]; rfl
  subst hN
  refine W.anew hx hb hown (hts _ hclink) (hts _ hover) rfl hdg rfl hn hbytes hcells hslots fun cA kA comp f1 f2 f3 f4 => ?_
  rw [hA] at k
  have hcA : cA = cT t := by
    obtain ⟨kA', comp', -, -, -, h2⟩ := (hK.2 t _ (mm_ty hK ht)).2
    exact Option.some.inj (f1.symm.trans h2)
  subst hcA
  refine k _ (hR.push ?_ (by rw [Array.size_push]) (fun q hq => by rw [Array.getElem?_push, if_neg (Nat.ne_of_lt hq)]))
  show (H.push _)[H.size]? = some (vp_cell (cT t) (mm_a (mm_A b z) (_, .inr (.inr (.inr (.inr _))))))
  rw [Array.getElem?_push_size, mm_cell_q, arrV_new]
  rfl
theorem mm_newqa_ok (hx : p.tables.exec = Jvm.exec) (hb : c.code = cc) {own : String} {y : FieldType} {index t N : Nat} {n : Int32} (hts : ∀ w ∈ TB, w.before args s = true) (hown : s.vm.findClass own = some m.cls) (hK : va_K D cl (mm_T cT 0 tyl) s) (hR : mm_R D cl cT b z Ln xs s g H locs)
    (ht : tyl[t]? = some (.array y)) (hclink : Cond.classLink own index (FieldType.array y).toString ∈ TB) (hover : Cond.arrayOver (.array y) ∈ TB) (hn : ¬ n < 0) (hN : n.toNatClampNeg = N) (hbytes : N * 4 ≤ 536870912) (hcells : cells + 1 ≤ R.cells) (hslots : slots + N ≤ R.slots) (hdg : decode cc pc = .ok (.anewarray index, 3))
    (k : ∀ H', mm_R D cl cT b z Ln xs s (g ++ [.inl (t, N, .inr (.inr (.inr (.inr (fun _ => none)))))]) H' locs → W p l e R s m args below meth c H' locs (cells + 1) (slots + N) Q (F0 m (pc + 3) L (.ref (mm_A b z (g.length + 1)) :: rest))) : W p l e R s m args below meth c H locs cells slots Q (F0 m pc L (.int n :: rest)) := by
  have hA : mm_A b z (g.length + 1) = H.size := by rw [hR.1]; rfl
  subst hN
  refine W.anewA hx hb hown (hts _ hclink) (hts _ hover) rfl hdg rfl hn hbytes hcells hslots fun cA kA comp f1 f2 f3 f4 => ?_
  rw [hA] at k
  have hcA : cA = cT t := by
    have h2 := (hK.2 t _ (mm_ty hK ht)).2
    exact Option.some.inj (f1.symm.trans h2)
  subst hcA
  refine k _ (hR.push ?_ (by rw [Array.size_push]) (fun q hq => by rw [Array.getElem?_push, if_neg (Nat.ne_of_lt hq)]))
  show (H.push _)[H.size]? = some (vp_cell (cT t) (mm_a (mm_A b z) (_, .inr (.inr (.inr (.inr _))))))
  rw [Array.getElem?_push_size, mm_cell_q, arrV_new]
  rfl
end MmCell
end
section
/-! THE TABLES of the small machine, in one bundle; the steps that touch cells, as a function. -/
abbrev mm_P : Type := (Nat → Nat) × (Nat → List (Nat × Instr)) × (Nat → Nat) × (Nat → Option FieldType) × (Nat → Bool) × (Nat → Nat → Nat → Option Nat) × (Nat → Nat → Option Nat) × (Nat → Nat → Option (Nat × Nat)) × (Nat → Nat → FieldType × Bool) × (Nat → Nat → Option (Nat × List Value)) × (Nat → Nat → Option Nat) × (Nat → Nat → Option (Nat × Nat × Nat)) × (Nat → Nat → Option Int32) × (Nat → Nat → Option Int64) × (Nat → Nat → Option (Int × Nat × List Nat)) × (Nat → Option Nat) × Nat × Nat × Nat
/-- a method's class -/
abbrev mm_kc (P : mm_P) : Nat → Nat := P.1
/-- its code -/
abbrev mm_kd (P : mm_P) : Nat → List (Nat × Instr) := P.2.1
/-- its locals -/
abbrev mm_kl (P : mm_P) : Nat → Nat := P.2.2.1
/-- what it returns -/
abbrev mm_kr (P : mm_P) : Nat → Option FieldType := P.2.2.2.1
/-- is it a constructor -/
abbrev mm_ki (P : mm_P) : Nat → Bool := P.2.2.2.2.1
/-- where an exception of a class, thrown by the call at pc, is caught -/
abbrev mm_kh (P : mm_P) : Nat → Nat → Nat → Option Nat := P.2.2.2.2.2.1
/-- where a throw of a new exception begins: its class -/
abbrev mm_xt (P : mm_P) : Nat → Nat → Option Nat := P.2.2.2.2.2.2.1
/-- a field: its class, its place there -/
abbrev mm_fl (P : mm_P) : Nat → Nat → Option (Nat × Nat) := P.2.2.2.2.2.2.2.1
/-- a field's type, and whether it is final -/
abbrev mm_ft (P : mm_P) : Nat → Nat → FieldType × Bool := P.2.2.2.2.2.2.2.2.1
/-- what 'new' makes -/
abbrev mm_nl (P : mm_P) : Nat → Nat → Option (Nat × List Value) := P.2.2.2.2.2.2.2.2.2.1
/-- the type of what 'anewarray' makes -/
abbrev mm_al (P : mm_P) : Nat → Nat → Option Nat := P.2.2.2.2.2.2.2.2.2.2.1
/-- a call: the method, how many values it takes, its kind (0 static, 1 virtual, 2 a constructor, 3 Object's) -/
abbrev mm_ml (P : mm_P) : Nat → Nat → Option (Nat × Nat × Nat) := P.2.2.2.2.2.2.2.2.2.2.2.1
abbrev mm_cI (P : mm_P) : Nat → Nat → Option Int32 := P.2.2.2.2.2.2.2.2.2.2.2.2.1
abbrev mm_cL (P : mm_P) : Nat → Nat → Option Int64 := P.2.2.2.2.2.2.2.2.2.2.2.2.2.1
/-- a tableswitch: its least value, where it goes else, where it goes -/
abbrev mm_sw (P : mm_P) : Nat → Nat → Option (Int × Nat × List Nat) := P.2.2.2.2.2.2.2.2.2.2.2.2.2.2.1
/-- the class of what a row of references holds -/
abbrev mm_ec (P : mm_P) : Nat → Option Nat := P.2.2.2.2.2.2.2.2.2.2.2.2.2.2.2.1
abbrev mm_CM (P : mm_P) : Nat := P.2.2.2.2.2.2.2.2.2.2.2.2.2.2.2.2.1
abbrev mm_SM (P : mm_P) : Nat := P.2.2.2.2.2.2.2.2.2.2.2.2.2.2.2.2.2.1
abbrev mm_nT (P : mm_P) : Nat := P.2.2.2.2.2.2.2.2.2.2.2.2.2.2.2.2.2.2
/-- may a value go into a field of a type: 1 yes, 2 if it is narrow enough, 0 no -/
def mm_fit : FieldType → Value → Nat
  | .int, .int _ => 1
  | .long, .long _ => 1
  | .object _, .ref _ => 1
  | .object _, .null => 1
  | .array _, .ref _ => 1
  | .array _, .null => 1
  | .boolean, .int _ => 2
  | .char, .int _ => 2
  | _, _ => 0
theorem mm_fit_1 {A : Nat → Nat} {ty : FieldType} {v : Value} (h : mm_fit ty v = 1) : narrow ty (mm_v A v) = mm_v A v ∧ fits ty (mm_v A v) = true := by
  unfold mm_fit at h
  split at h <;> first | (cases h; done) | exact ⟨rfl, rfl⟩
theorem mm_fit_2 {A : Nat → Nat} {ty : FieldType} {v : Value} (h : mm_fit ty v = 2) : mm_v A v = v := by
  unfold mm_fit at h
  split at h <;> first | (cases h; done) | rfl
/-- the type's number and the zeros of a new row -/
def mm_nt : ArrayType → Option (Nat × (Nat → vp_A))
  | .int => some (0, fun n => (n, .inl (fun _ => 0)))
  | .long => some (1, fun n => (n, .inr (.inl (fun _ => 0))))
  | .char => some (2, fun n => (n, .inl (fun _ => 0)))
  | .boolean => some (3, fun n => (n, .inl (fun _ => 0)))
  | _ => none
def mm_s2 (P : mm_P) (k : Nat) (Ln : Nat) (xs : Nat → Int32) (nx : Nat → List Value → List va_E → Nat → Prop) (ins : Instr) (pc : Nat) (st : List Value) (g : List va_E) (sl : Nat) : Option Prop :=
  match ins with
  | .getfield i => match st with
    | .ref (q + 1) :: r => match g[q]? with
      | some (.inr (ci, fs)) => match mm_fl P (mm_kc P k) i with
        | some (cj, j) => match decide (ci = cj) with
          | true => match fs[j]? with
            | some v => some (nx (pc + 3) (v :: r) g sl)
            | none => some False
          | false => some False
        | none => some False
      | _ => some False
    | _ => some False
  | .putfield i => match st with
    | v :: .ref (q + 1) :: r => match g[q]? with
      | some (.inr (ci, fs)) => match mm_fl P (mm_kc P k) i with
        | some (cj, j) => match decide (ci = cj ∧ j < fs.length ∧ ((mm_ft P ci j).2 = false ∨ (mm_ki P k = true ∧ ci = mm_kc P k))) with
          | true => match mm_fit (mm_ft P ci j).1 v with
            | 1 => some (nx (pc + 3) r (g.set q (.inr (ci, fs.set j v))) sl)
            | 2 => some ((narrow (mm_ft P ci j).1 v = v ∧ fits (mm_ft P ci j).1 v = true) ∧ nx (pc + 3) r (g.set q (.inr (ci, fs.set j v))) sl)
            | _ => some False
          | false => some False
        | none => some False
      | _ => some False
    | _ => some False
  | .iaload => match st with
    | .int i :: .ref 0 :: r => some (vp_in i Ln ∧ nx (pc + 1) (.int (xs i.toNatClampNeg) :: r) g sl)
    | .int i :: .ref (q + 1) :: r => match g[q]? with
      | some (.inl (0, n, .inl f)) => some (vp_in i n ∧ nx (pc + 1) (.int (f i.toNatClampNeg) :: r) g sl)
      | _ => some False
    | _ => some False
  | .laload => match st with
    | .int i :: .ref (q + 1) :: r => match g[q]? with
      | some (.inl (1, n, .inr (.inl f))) => some (vp_in i n ∧ nx (pc + 1) (.long (f i.toNatClampNeg) :: r) g sl)
      | _ => some False
    | _ => some False
  | .caload => match st with
    | .int i :: .ref (q + 1) :: r => match g[q]? with
      | some (.inl (2, n, .inl f)) => some (vp_in i n ∧ nx (pc + 1) (.int (f i.toNatClampNeg) :: r) g sl)
      | _ => some False
    | _ => some False
  | .baload => match st with
    | .int i :: .ref (q + 1) :: r => match g[q]? with
      | some (.inl (3, n, .inl f)) => some (vp_in i n ∧ nx (pc + 1) (.int (f i.toNatClampNeg) :: r) g sl)
      | _ => some False
    | _ => some False
  | .aaload => match st with
    | .int i :: .ref (q + 1) :: r => match g[q]? with
      | some (.inl (t, n, .inr (.inr (.inr (.inr f))))) => match decide (4 ≤ t ∧ t < mm_nT P) with
        | true => some (vp_in i n ∧ nx (pc + 1) (va_rf (f i.toNatClampNeg) :: r) g sl)
        | false => some False
      | _ => some False
    | _ => some False
  | .iastore => match st with
    | .int x :: .int i :: .ref (q + 1) :: r => match g[q]? with
      | some (.inl (0, n, .inl f)) => some (vp_in i n ∧ nx (pc + 1) r (g.set q (.inl (0, n, .inl (upd f i.toNatClampNeg x)))) sl)
      | _ => some False
    | _ => some False
  | .lastore => match st with
    | .long x :: .int i :: .ref (q + 1) :: r => match g[q]? with
      | some (.inl (1, n, .inr (.inl f))) => some (vp_in i n ∧ nx (pc + 1) r (g.set q (.inl (1, n, .inr (.inl (vp_updL f i.toNatClampNeg x))))) sl)
      | _ => some False
    | _ => some False
  | .castore => match st with
    | .int x :: .int i :: .ref (q + 1) :: r => match g[q]? with
      | some (.inl (2, n, .inl f)) => some (vp_in i n ∧ nx (pc + 1) r (g.set q (.inl (2, n, .inl (upd f i.toNatClampNeg (vp_nar .char x))))) sl)
      | _ => some False
    | _ => some False
  | .bastore => match st with
    | .int x :: .int i :: .ref (q + 1) :: r => match g[q]? with
      | some (.inl (3, n, .inl f)) => some (vp_in i n ∧ nx (pc + 1) r (g.set q (.inl (3, n, .inl (upd f i.toNatClampNeg (vp_nar .boolean x))))) sl)
      | _ => some False
    | _ => some False
  | .aastore => match st with
    | .ref (q2 + 1) :: .int i :: .ref (q + 1) :: r => match g[q]? with
      | some (.inl (t, n, .inr (.inr (.inr (.inr f))))) => match g[q2]? with
        | some (.inr (ci, _)) => match mm_ec P t with
          | some cj => match decide (ci = cj) with
            | true => some (vp_in i n ∧ nx (pc + 1) r (g.set q (.inl (t, n, .inr (.inr (.inr (.inr (va_up f i.toNatClampNeg (some (q2 + 1))))))))) sl)
            | false => some False
          | none => some False
        | _ => some False
      | _ => some False
    | _ => some False
  | .arraylength => match st with
    | .ref 0 :: r => some (nx (pc + 1) (.int (Int32.ofNat Ln) :: r) g sl)
    | .ref (q + 1) :: r => match g[q]? with
      | some (.inl (t, a)) => match decide (t < mm_nT P) with
        | true => some (nx (pc + 1) (.int (Int32.ofNat a.1) :: r) g sl)
        | false => some False
      | _ => some False
    | _ => some False
  | .newarray y => match st with
    | .int x :: r => match mm_nt y with
      | some (t, a0) => some ((¬ x < 0 ∧ x.toNatClampNeg ≤ 1000000 ∧ g.length + 1 ≤ mm_CM P ∧ sl + x.toNatClampNeg ≤ mm_SM P) ∧ nx (pc + 2) (.ref (g.length + 1) :: r) (g ++ [.inl (t, a0 x.toNatClampNeg)]) (sl + x.toNatClampNeg))
      | none => some False
    | _ => some False
  | .anewarray i => match st with
    | .int x :: r => match mm_al P (mm_kc P k) i with
      | some t => some ((¬ x < 0 ∧ x.toNatClampNeg ≤ 1000000 ∧ g.length + 1 ≤ mm_CM P ∧ sl + x.toNatClampNeg ≤ mm_SM P) ∧ nx (pc + 3) (.ref (g.length + 1) :: r) (g ++ [.inl (t, x.toNatClampNeg, .inr (.inr (.inr (.inr (fun _ => none)))))]) (sl + x.toNatClampNeg))
      | none => some False
    | _ => some False
  | .new i => match mm_nl P (mm_kc P k) i with
    | some (ci, dv) => some ((g.length + 1 ≤ mm_CM P ∧ sl + dv.length ≤ mm_SM P) ∧ nx (pc + 3) (.ref (g.length + 1) :: st) (g ++ [.inr (ci, dv)]) (sl + dv.length))
    | none => some False
  | .ldc i => match mm_cI P (mm_kc P k) i with
    | some v => some (nx (pc + 2) (.int v :: st) g sl)
    | none => some False
  | .ldc2_w i => match mm_cL P (mm_kc P k) i with
    | some v => some (nx (pc + 3) (.long v :: st) g sl)
    | none => some False
  | _ => none
/-- the tables tell the truth, so far as cells go. cn: the classes' names -/
def mm_ok2 (P : mm_P) (TB : List Cond) (cl : List vw_C) (tyl : List FieldType) (cn : Nat → String) : Prop :=
  (∀ ci C T N, cl[ci]? = some (C, T, N) → (∀ w ∈ u_ws C T N, w ∈ TB) ∧ (∀ j, j < N → parseFieldDescriptor (T j).2.2.1 = some (mm_ft P ci j).1 ∧ (T j).2.2.2 = (mm_ft P ci j).2 ∧ (T j).1 = C) ∧ (∀ a, a < N → ∀ b, b < N → a ≠ b → (T a).2.1 ≠ (T b).2.1) ∧ (0 < N → cn ci = C))
  ∧ (∀ o i ci j, mm_fl P o i = some (ci, j) → ∃ C T N, cl[ci]? = some (C, T, N) ∧ j < N ∧ Cond.fieldLink (cn o) i (T j).1 (T j).2.1 (T j).2.2.1 ∈ TB)
  ∧ (∀ o i ci dv, mm_nl P o i = some (ci, dv) → ∃ C T N, cl[ci]? = some (C, T, N) ∧ Cond.classLink (cn o) i C ∈ TB ∧ Cond.instantiable C N ∈ TB ∧ Cond.initialized C ∈ TB ∧ dv.length = N ∧ (∀ v ∈ dv, ∀ q, v ≠ .ref q) ∧ ∀ j, j < N → defaultValue (mm_ft P ci j).1 = vp_V dv j)
  ∧ (∀ o i t, mm_al P o i = some t → (∃ C, tyl[t]? = some (.object C) ∧ Cond.classLink (cn o) i C ∈ TB ∧ Cond.arrayOver (.object C) ∈ TB) ∨ (∃ y, tyl[t]? = some (.array y) ∧ Cond.classLink (cn o) i (FieldType.array y).toString ∈ TB ∧ Cond.arrayOver (.array y) ∈ TB))
  ∧ (∀ y t a0, mm_nt y = some (t, a0) → tyl[t]? = some (newarray.typeOf y) ∧ Cond.arrayClass (newarray.typeOf y) ∈ TB)
  ∧ (∀ o i v, mm_cI P o i = some v → Cond.constant (cn o) i v ∈ TB)
  ∧ (∀ o i v, mm_cL P o i = some v → Cond.constantLong (cn o) i v ∈ TB)
  ∧ (tyl.length = mm_nT P ∧ (∀ t, 4 ≤ t → t < mm_nT P → ∃ y, tyl[t]? = some y ∧ y.isReference = true))
  ∧ (∀ t ci, mm_ec P t = some ci → ∃ r : vw_C, tyl[t]? = some (.object r.1) ∧ cl[ci]? = some r)
theorem mm_dv {A : Nat → Nat} {dv : List Value} (h : ∀ v ∈ dv, ∀ q, v ≠ .ref q) : dv.map (mm_v A) = dv := by
  have : ∀ v ∈ dv, mm_v A v = v := fun v hv => by
    cases v <;> first | rfl | exact absurd rfl (h _ hv _)
  exact (List.map_congr_left this).trans (List.map_id' dv)
/-- the counters: what the method has made so far, and that all of it fits -/
def mm_cnt (P : mm_P) (gl0 sl0 cells slots : Nat) (g : List va_E) (sl : Nat) : Prop := cells + gl0 = g.length ∧ slots + sl0 = sl ∧ g.length ≤ mm_CM P ∧ sl ≤ mm_SM P
section MmS2
variable {p : Program} {l : Launch} {e : Env} {R : Room} {s : State} {m : MethodId} {args : Array Value} {below : List Frame} {meth : Method} {c : Code} {H : Heap} {locs : List Loc} {cells slots : Nat} {Q : State → Prop} {cc : ByteArray} {pc : Nat} {ins : Instr} {L : Array Slot} {D : va_G} {cl : List vw_C} {cT : Nat → Nat} {b z Ln : Nat} {xs : Nat → Int32} {g : List va_E} {st : List Value} {tyl : List FieldType} {TB : List Cond} {P : mm_P} {cn : Nat → String} {k sl gl0 sl0 : Nat}
theorem mm_fin {ci j kc : Nat} {ki : Bool} {C own : String} {T : u_T} {fin : Bool} {name : String} (h1 : (T j).2.2.2 = fin) (h2 : (T j).1 = C) (hi : ki = true → name = "<init>") (hc : ci = kc → C = own) (h : fin = false ∨ (ki = true ∧ ci = kc)) : (T j).2.2.2 = false ∨ ((T j).2.2.2 = true ∧ name = "<init>" ∧ (T j).1 = own) := by
  subst h1
  rcases h with h | ⟨h3, h4⟩
  · exact Or.inl h
  · cases hf : (T j).2.2.2 with
    | false => exact Or.inl rfl
    | true => exact Or.inr ⟨rfl, hi h3, h2.trans (hc h4)⟩
set_option maxHeartbeats 2000000 in
theorem mm_s2_ok (ok : mm_ok2 P TB cl tyl cn) (hx : p.tables.exec = Jvm.exec) (hb : c.code = cc) (hts : ∀ w ∈ TB, w.before args s = true) (hown : s.vm.findClass (cn (mm_kc P k)) = some m.cls) (hname : mm_ki P k = true → meth.name = "<init>") (hK : va_K D cl (mm_T cT 0 tyl) s)
    {nx : Nat → List Value → List va_E → Nat → Prop} {X : Prop} (h : mm_s2 P k Ln xs nx ins pc st g sl = some X) (hX : X) (hdg : decode cc pc = .ok (ins, mm_ln ins)) (hR : mm_R D cl cT b z Ln xs s g H locs) (hcnt : mm_cnt P gl0 sl0 cells slots g sl) (hCM : mm_CM P ≤ R.cells + gl0) (hSM : mm_SM P ≤ R.slots + sl0)
    (kk : ∀ pc' st' g' sl' H' locs' cells' slots', nx pc' st' g' sl' → mm_R D cl cT b z Ln xs s g' H' locs' → mm_cnt P gl0 sl0 cells' slots' g' sl' → W p l e R s m args below meth c H' locs' cells' slots' Q (F0 m pc' L (mm_S (mm_A b z) st'))) : W p l e R s m args below meth c H locs cells slots Q (F0 m pc L (mm_S (mm_A b z) st)) := by
  obtain ⟨okC, okF, okN, okA, okT, okI, okL, ⟨okn, okR⟩, okE⟩ := ok
  obtain ⟨hcells, hslots, hcap1, hcap2⟩ := id hcnt
  have hset : ∀ (q : Nat) (e' : va_E), mm_cnt P gl0 sl0 cells slots (g.set q e') sl := fun q e' => ⟨by rw [List.length_set]; exact hcells, hslots, by rw [List.length_set]; exact hcap1, hcap2⟩
  unfold mm_s2 at h
  split at h
  · split at h
    · split at h
      · rename_i ci fs hq
        split at h
        · rename_i cj j hf
          split at h
          · rename_i hd
            have hd := of_decide_eq_true hd
            subst hd
            split at h
            · rename_i v hv
              cases h
              obtain ⟨C, T, N, hc, hj, hl⟩ := okF _ _ _ _ hf
              exact mm_getf_ok hx hb hts (okC _ _ _ _ hc).1 hown hK hR hq hc hj hl hv hdg (kk _ _ _ _ _ _ _ _ hX hR hcnt)
            · cases h; exact hX.elim
          · cases h; exact hX.elim
        · cases h; exact hX.elim
      · cases h; exact hX.elim
    · cases h; exact hX.elim
  · split at h
    · split at h
      · rename_i ci fs hq
        split at h
        · rename_i cj j hf
          split at h
          · rename_i hd
            obtain ⟨hd1, hd2, hd3⟩ := of_decide_eq_true hd
            subst hd1
            obtain ⟨C, T, N, hc, hj, hl⟩ := okF _ _ _ _ hf
            obtain ⟨o1, o2, o3, o4⟩ := okC _ _ _ _ hc
            have hfin := mm_fin (own := cn (mm_kc P k)) (o2 _ hj).2.1 (o2 _ hj).2.2 hname (fun q => by rw [← q]; exact (o4 (by omega)).symm) hd3
            split at h
            · rename_i hft
              cases h
              have hft := mm_fit_1 (A := mm_A b z) hft
              exact mm_putf_ok (ft := fun i => (mm_ft P ci i).1) hx hb hts o1 hown hK hR hq hc hj hl (fun i hi => (o2 i hi).1) o3 hfin hft.1 hft.2 hd2 hdg (fun H' i r => kk _ _ _ _ _ _ _ _ hX r (hset _ _))
            · rename_i hft
              cases h
              have hft := mm_fit_2 (A := mm_A b z) hft
              exact mm_putf_ok (ft := fun i => (mm_ft P ci i).1) hx hb hts o1 hown hK hR hq hc hj hl (fun i hi => (o2 i hi).1) o3 hfin (by rw [hft]; exact hX.1.1) (by rw [hft]; exact hX.1.2) hd2 hdg (fun H' i r => kk _ _ _ _ _ _ _ _ hX.2 r (hset _ _))
            · cases h; exact hX.elim
          · cases h; exact hX.elim
        · cases h; exact hX.elim
      · cases h; exact hX.elim
    · cases h; exact hX.elim
  · split at h
    · cases h
      exact va_sld (A := fun q => z ≤ q) hx hb hR.2.2.2.1 (by have := hR.2.2.2.2.1; have := hR.2.2.2.2.2; omega) (by have := hR.2.2.2.2.1; show ¬ z ≤ b; omega) hR.2.2.1 hX.1 hdg (kk _ _ _ _ _ _ _ _ hX.2 hR hcnt)
    · split at h
      · rename_i hq
        cases h
        exact va_iald hx hb hK hR.2.1 _ 0 (mm_at hR hq) (mm_ty hK (okT .int _ _ rfl).1) hX.1 hdg (kk _ _ _ _ _ _ _ _ hX.2 hR hcnt)
      · cases h; exact hX.elim
    · cases h; exact hX.elim
  · split at h
    · split at h
      · rename_i hq
        cases h
        exact va_lald hx hb hK hR.2.1 _ 1 (mm_at hR hq) (mm_ty hK (okT .long _ _ rfl).1) hX.1 hdg (kk _ _ _ _ _ _ _ _ hX.2 hR hcnt)
      · cases h; exact hX.elim
    · cases h; exact hX.elim
  · split at h
    · split at h
      · rename_i hq
        cases h
        exact va_cald hx hb hK hR.2.1 _ 2 (mm_at hR hq) (mm_ty hK (okT .char _ _ rfl).1) hX.1 hdg (kk _ _ _ _ _ _ _ _ hX.2 hR hcnt)
      · cases h; exact hX.elim
    · cases h; exact hX.elim
  · split at h
    · split at h
      · rename_i hq
        cases h
        exact va_zald hx hb hK hR.2.1 _ 3 (mm_at hR hq) (mm_ty hK (okT .boolean _ _ rfl).1) hX.1 hdg (kk _ _ _ _ _ _ _ _ hX.2 hR hcnt)
      · cases h; exact hX.elim
    · cases h; exact hX.elim
  · split at h
    · split at h
      · rename_i t n f hq
        split at h
        · rename_i hd
          obtain ⟨hd1, hd2⟩ := of_decide_eq_true hd
          cases h
          obtain ⟨y, hy, hr⟩ := okR _ hd1 hd2
          have hlt : _ < n := Nat.not_le.mp fun q => hX.1 (Or.inr q)
          refine W.aald (v := mm_v (mm_A b z) (va_rf (f _))) (ty := y) hx hb (hR.2.1 _ _ (mm_at hR hq)) ((hK.2 t _ (mm_ty hK hy)).1 n (fun j => va_rf ((f j).map (mm_A b z)))) hr (fun q => by cases q) (by show ¬ (_ < 0 ∨ (arrV _ _ _).slots.size ≤ _); rw [arrV_size]; exact hX.1) ?_ rfl rfl hdg (kk _ _ _ _ _ _ _ _ hX.2 hR hcnt)
          show (arrV (cT t) n (fun j => va_rf ((f j).map (mm_A b z)))).slots[_]? = _
          rw [arrV_read _ _ hlt]
          cases f _ <;> rfl
        · cases h; exact hX.elim
      · cases h; exact hX.elim
    · cases h; exact hX.elim
  · split at h
    · split at h
      · rename_i hq
        cases h
        exact mm_iast_ok hx hb hK hR hq (okT .int _ _ rfl).1 hX.1 hdg (fun H' i r => kk _ _ _ _ _ _ _ _ hX.2 r (hset _ _))
      · cases h; exact hX.elim
    · cases h; exact hX.elim
  · split at h
    · split at h
      · rename_i hq
        cases h
        exact mm_last_ok hx hb hK hR hq (okT .long _ _ rfl).1 hX.1 hdg (fun H' i r => kk _ _ _ _ _ _ _ _ hX.2 r (hset _ _))
      · cases h; exact hX.elim
    · cases h; exact hX.elim
  · split at h
    · split at h
      · rename_i hq
        cases h
        exact mm_cast_ok hx hb hK hR hq (okT .char _ _ rfl).1 hX.1 hdg (fun H' i r => kk _ _ _ _ _ _ _ _ hX.2 r (hset _ _))
      · cases h; exact hX.elim
    · cases h; exact hX.elim
  · split at h
    · split at h
      · rename_i hq
        cases h
        exact mm_zast_ok hx hb hK hR hq (okT .boolean _ _ rfl).1 hX.1 hdg (fun H' i r => kk _ _ _ _ _ _ _ _ hX.2 r (hset _ _))
      · cases h; exact hX.elim
    · cases h; exact hX.elim
  · split at h
    · split at h
      · rename_i t n f hq
        split at h
        · rename_i ci fs hq2
          split at h
          · rename_i cj he
            split at h
            · rename_i hd
              have hd := of_decide_eq_true hd
              subst hd
              cases h
              obtain ⟨r, hr1, hr2⟩ := okE _ _ he
              exact mm_aast_ok hx hb hK hR hq hr1 hq2 hr2 hX.1 hdg (fun H' i r => kk _ _ _ _ _ _ _ _ hX.2 r (hset _ _))
            · cases h; exact hX.elim
          · cases h; exact hX.elim
        · cases h; exact hX.elim
      · cases h; exact hX.elim
    · cases h; exact hX.elim
  · split at h
    · cases h
      exact va_slen (A := fun q => z ≤ q) (b := b) hx hb hR.2.2.2.1 (by have := hR.2.2.2.2.1; have := hR.2.2.2.2.2; omega) (by have := hR.2.2.2.2.1; show ¬ z ≤ b; omega) hR.2.2.1 hdg (kk _ _ _ _ _ _ _ _ hX hR hcnt)
    · split at h
      · rename_i t a hq
        split at h
        · rename_i hd
          have hd := of_decide_eq_true hd
          cases h
          obtain ⟨y, hy⟩ : ∃ y, tyl[t]? = some y := ⟨tyl[t]'(by rw [okn]; exact hd), List.getElem?_eq_getElem (by rw [okn]; exact hd)⟩
          refine va_alen hx hb hK hR.2.1 _ t (mm_at hR hq) (mm_ty hK hy) ?_ hdg (kk _ _ _ _ _ _ _ _ hX hR hcnt)
          obtain ⟨n, f | f | f | f | f⟩ := a <;> rfl
        · cases h; exact hX.elim
      · cases h; exact hX.elim
    · cases h; exact hX.elim
  · rename_i y
    split at h
    · rename_i x r
      split at h
      · rename_i t a0 hn
        cases h
        obtain ⟨⟨x1, x2, x3, x4⟩, x5⟩ := hX
        obtain ⟨t1, t2⟩ := okT _ _ _ hn
        refine mm_newa_ok hx hb hts hK hR t1 t2 (a0 := a0 x.toNatClampNeg) ?_ x1 rfl ?_ (by omega) (by omega) hdg (fun H' r => kk _ _ _ _ _ _ _ _ x5 r ⟨by rw [List.length_append]; show cells + 1 + gl0 = g.length + 1; omega, by omega, by rw [List.length_append]; show g.length + 1 ≤ mm_CM P; omega, by omega⟩)
        · intro cA
          unfold mm_nt at hn
          split at hn <;> first | (cases hn; done) | (cases hn; rfl)
        · have : componentBytes (newarray.typeOf y) ≤ 8 := by cases y <;> decide
          calc x.toNatClampNeg * componentBytes (newarray.typeOf y) ≤ 1000000 * 8 := Nat.mul_le_mul x2 this
            _ ≤ 536870912 := by decide
      · cases h; exact hX.elim
    · cases h; exact hX.elim
  · split at h
    · split at h
      · rename_i t hn
        cases h
        obtain ⟨⟨x1, x2, x3, x4⟩, x5⟩ := hX
        rcases okA _ _ _ hn with ⟨C, t1, t2, t3⟩ | ⟨y, t1, t2, t3⟩
        · exact mm_newq_ok hx hb hts hown hK hR t1 t2 t3 x1 rfl (by omega) (by omega) (by omega) hdg (fun H' r => kk _ _ _ _ _ _ _ _ x5 r ⟨by rw [List.length_append]; show cells + 1 + gl0 = g.length + 1; omega, by omega, by rw [List.length_append]; show g.length + 1 ≤ mm_CM P; omega, by omega⟩)
        · exact mm_newqa_ok hx hb hts hown hK hR t1 t2 t3 x1 rfl (by omega) (by omega) (by omega) hdg (fun H' r => kk _ _ _ _ _ _ _ _ x5 r ⟨by rw [List.length_append]; show cells + 1 + gl0 = g.length + 1; omega, by omega, by rw [List.length_append]; show g.length + 1 ≤ mm_CM P; omega, by omega⟩)
      · cases h; exact hX.elim
    · cases h; exact hX.elim
  · split at h
    · rename_i ci dv hn
      cases h
      obtain ⟨⟨x1, x2⟩, x3⟩ := hX
      obtain ⟨C, T, N, n1, n2, n3, n4, n5, n6, n7⟩ := okN _ _ _ _ hn
      obtain ⟨o1, o2, o3, o4⟩ := okC _ _ _ _ n1
      subst n5
      exact mm_new_ok (ft := fun j => (mm_ft P ci j).1) hx hb hts o1 hown hK hR n1 (fun j hj => (o2 j hj).1) n2 n3 n4 (by rw [mm_dv n6]; exact n7) (by omega) (by omega) hdg (fun H' r => kk _ _ _ _ _ _ _ _ x3 r ⟨by rw [List.length_append]; show cells + 1 + gl0 = g.length + 1; omega, by omega, by rw [List.length_append]; show g.length + 1 ≤ mm_CM P; omega, by omega⟩)
    · cases h; exact hX.elim
  · split at h
    · rename_i v hn
      cases h
      exact lv_ldc hx hb hown (hts _ (okI _ _ _ hn)) hdg (kk _ _ _ _ _ _ _ _ hX hR hcnt)
    · cases h; exact hX.elim
  · split at h
    · rename_i v hn
      cases h
      exact lv_ldc2 hx hb hown (hts _ (okL _ _ _ hn)) hdg (kk _ _ _ _ _ _ _ _ hX hR hcnt)
    · cases h; exact hX.elim
  · cases h
end MmS2
end
section
/-! AN EXCEPTION IS CAUGHT, its class's entry resolved before or not. -/
section MmCatch
variable {e : Env} {f : JFrame} {a : Addr}
theorem mm_go_class {E : CtlPost} {d : Bool} {acts : List Action} {s : State} {Q : Handler → Pre} {x : ExceptionTableEntry} {t : List ExceptionTableEntry} {c : ClassId} {vm' : Vm} {cell : Cell} (hx : covers x f.pc = true) (h0 : x.catchType ≠ 0)
    (hg : (Jvm.resolveClass f.method.cls x.catchType).Gives e.toSetting s.vm (.ok c) vm') (hsz : vm'.classes.size ≤ s.vm.classes.size) (hcell : s.heap[a]? = some cell) (hobj : ∀ k, cell.vm ≠ .statics k) (hk : ∃ k, vm'.classes[cell.cls]? = some k) (hc : ∃ k, vm'.classes[c]? = some k) :
    wp (findHandler.go f a (x :: t)) Q E e d acts s ↔ if vm'.assignable cell.cls c = true then Q (.found x.handlerPc) d acts (s.setVm vm') else wp (findHandler.go f a t) Q E e d acts (s.setVm vm') := by
  simp only [covers] at hx
  obtain ⟨ha, ht⟩ := hg.op (op := VmOp.resolveClass f.method.cls x.catchType) rfl
  cases hfit : vm'.assignable cell.cls c <;> simp [findHandler.go, hx, h0, ha, ht, hsz, hcell, hobj, hk, hc, hfit, VmOp.dirties, VmOp.acts]
theorem mm_step_catch {s : State} {r : List Frame} {pc : Nat} {vm' : Vm} (hfind : ∀ (Q : Handler → Pre) (E : CtlPost) (d : Bool) (acts : List Action), wp (findHandler f a) Q E e d acts s ↔ Q (.found pc) d acts (s.setVm vm')) :
    (stepThrowing e s a (.java f :: r)).Is ((s.setVm vm').setFrames (.java { f with pc := pc, stack := [.ref a] } :: r)) [] := by
  simp only [stepThrowing, searchFrame, vmDo]
  generalize hr : Sem.go _ e false [] s = res
  obtain ⟨as, rfl, ha⟩ := Sem.eq_ok_of hr (a := Handler.found pc) (s' := s.setVm vm') (acts' := []) (by simp [hfind _ _ _ _])
  exact ⟨rfl, ha⟩
/-- the first row of a table that covers pc and whose class is ci's; rows of other classes are passed by -/
def mm_hit (cc : Nat → Option Nat) (pc ci : Nat) : List (Nat × Nat × Nat × Nat) → Option Nat
  | [] => none
  | x :: r => if x.1 ≤ pc ∧ pc < x.2.1 then (match cc x.2.2.2 with
    | some cj => if cj = ci then some x.2.2.1 else mm_hit cc pc ci r
    | none => none) else mm_hit cc pc ci r
theorem mm_finds {s0 : State} {cc : Nat → Option Nat} {dC : Nat → ClassId} {ci : Nat} {pcH : Nat} {cell : Cell} (hpl : e.platform.magicAccessors = ({} : Platform).magicAccessors)
    (hcc : ∀ ct cj, cc ct = some cj → ct ≠ 0 ∧ s0.vm.ClassLinks e.platform f.method.cls ct (dC cj) ∧ (∃ k, s0.vm.classes[dC cj]? = some k) ∧ (s0.vm.assignable (dC ci) (dC cj) = true ↔ cj = ci)) (hcls : cell.cls = dC ci) (hci : ∃ k, s0.vm.classes[dC ci]? = some k) (hobj : ∀ k, cell.vm ≠ .statics k) :
    ∀ (hs : List ExceptionTableEntry) (s : State), s0.WarmedH s.vm → s.heap[a]? = some cell → mm_hit cc f.pc ci (hs.map (fun h => (h.startPc, h.endPc, h.handlerPc, h.catchType))) = some pcH →
      ∃ vm', s0.WarmedH vm' ∧ ∀ (Q : Handler → Pre) (E : CtlPost) (d : Bool) (acts : List Action), wp (findHandler.go f a hs) Q E e d acts s ↔ Q (.found pcH) d acts (s.setVm vm')
  | [], s, _, _, h => by simp [mm_hit] at h
  | x :: t, s, hW, hcell, h => by
    simp only [List.map_cons, mm_hit] at h
    by_cases hx : x.startPc ≤ f.pc ∧ f.pc < x.endPc
    · rw [if_pos hx] at h
      have hcov : covers x f.pc = true := by simp [covers, hx.1, hx.2]
      cases hcj : cc x.catchType with
      | none => rw [hcj] at h; cases h
      | some cj =>
        rw [hcj] at h
        dsimp only at h
        obtain ⟨h0, hl, hkj, has⟩ := hcc _ _ hcj
        obtain ⟨hg, hW1, hr1⟩ := State.classEntry (e := e) hW hl
        have hsz : (s.vm.noted f.method.cls x.catchType (.cls (dC cj))).classes.size ≤ s.vm.classes.size := by no_record
        generalize s.vm.noted f.method.cls x.catchType (.cls (dC cj)) = vm1 at hg hW1 hr1 hsz
        obtain ⟨k1, hk1⟩ := hci
        obtain ⟨k2, hk2⟩ := hkj
        obtain ⟨k1', hk1', -⟩ := hW1.alike.2.2 _ _ hk1
        obtain ⟨k2', hk2', -⟩ := hW1.alike.2.2 _ _ hk2
        have hgo := fun (Q : Handler → Pre) (E : CtlPost) (d : Bool) (acts : List Action) => mm_go_class (Q := Q) (E := E) (d := d) (acts := acts) (t := t) hcov h0 hg hsz hcell hobj ⟨k1', by rw [hcls]; exact hk1'⟩ ⟨k2', hk2'⟩
        have hasg : vm1.assignable cell.cls (dC cj) = s0.vm.assignable (dC ci) (dC cj) := by rw [hcls]; exact hW1.alike.assignable _ _
        by_cases hj : cj = ci
        · rw [if_pos hj] at h
          cases h
          refine ⟨vm1, hW1, fun Q E d acts => (hgo Q E d acts).trans ?_⟩
          rw [if_pos (by rw [hasg]; exact has.mpr hj)]
        · simp only [if_neg hj] at h
          obtain ⟨vm2, hW2, hq⟩ := mm_finds hpl hcc hcls ⟨k1, hk1⟩ hobj t (s.setVm vm1) hW1 hcell h
          refine ⟨vm2, hW2, fun Q E d acts => (hgo Q E d acts).trans ?_⟩
          rw [if_neg (by rw [hasg]; exact fun q => hj (has.mp q))]
          exact hq Q E d acts
    · rw [if_neg hx] at h
      obtain ⟨vm2, hW2, hq⟩ := mm_finds hpl hcc hcls hci hobj t s hW hcell h
      refine ⟨vm2, hW2, fun Q E d acts => ?_⟩
      rw [W.findHandler_go_skip (by simp only [covers]; by_cases q1 : x.startPc ≤ f.pc <;> by_cases q2 : f.pc < x.endPc <;> simp [q1, q2]; exact hx ⟨q1, q2⟩)]
      exact hq Q E d acts
end MmCatch
section MmCatchAt
variable {p : Program} {l : Launch} {e : Env} {R : Room} {s : State} {m : MethodId} {args : Array Value} {below : List Frame} {meth : Method} {c : Code} {T : State} {locs : List Loc} {cells slots : Nat}
theorem mm_caught (X : Stand p l e R s m args below meth c T locs cells slots) {a : Addr} {g : JFrame} (hg : g.method = m) {cc : Nat → Option Nat} {dC : Nat → ClassId} {ci pcH : Nat} {cell : Cell} (hcell : T.heap[a]? = some cell) (hcls : cell.cls = dC ci) (hobj : ∀ k, cell.vm ≠ .statics k) (hci : ∃ k, s.vm.classes[dC ci]? = some k)
    (hcc : ∀ ct cj, cc ct = some cj → ct ≠ 0 ∧ s.vm.ClassLinks e.platform m.cls ct (dC cj) ∧ (∃ k, s.vm.classes[dC cj]? = some k) ∧ (s.vm.assignable (dC ci) (dC cj) = true ↔ cj = ci)) (hhit : mm_hit cc g.pc ci (c.exceptionTable.toList.map (fun h => (h.startPc, h.endPc, h.handlerPc, h.catchType))) = some pcH) :
    ∃ vm', Stand p l e R s m args below meth c (T.setVm vm') locs cells slots ∧ ∀ target, Steps p.tables e below ((T.setVm vm').setTop { g with pc := pcH, stack := [.ref a] }) target → Steps p.tables e below ((T.setTop g).pushFrame (.throwing a)) target := by
  have hpl : e.platform.magicAccessors = ({} : Platform).magicAccessors := by rw [X.admits.platform]
  subst hg
  have hvm : ((T.setTop g).pushFrame (.throwing a)).vm = T.vm := Stand.throwing_vm T g a
  have hhp : ((T.setTop g).pushFrame (.throwing a)).heap = T.heap := Stand.throwing_heap T g a
  obtain ⟨vm', hW', hq⟩ := mm_finds (f := g) (a := a) hpl hcc hcls hci hobj c.exceptionTable.toList ((T.setTop g).pushFrame (.throwing a)) (by rw [hvm]; exact X.warmed) (by rw [hhp]; exact hcell) hhit
  refine ⟨vm', X.noted hW', fun target hrest => ?_⟩
  have h := X.here
  obtain ⟨hgo, hw⟩ := h.throwing (g := g) a
  refine Steps.head hgo hw ?_
  have hfind : ∀ (Q : Handler → Pre) (E : CtlPost) (d : Bool) (acts : List Action), wp (findHandler g a) Q E e d acts ((T.setTop g).pushFrame (.throwing a)) ↔ Q (.found pcH) d acts (((T.setTop g).pushFrame (.throwing a)).setVm vm') := fun Q E d acts => by
    rw [W.findHandler_eq (meth := meth) (code := c) (by rw [hvm]; exact X.method') X.code]
    exact hq Q E d acts
  rw [stepThread_throwing (frames_entered h.top _), (mm_step_catch (s := (T.setTop g).pushFrame (.throwing a)) hfind).1]
  obtain ⟨g₀, hg0⟩ := Option.isSome_iff_exists.mp h.top
  obtain ⟨r, hr⟩ := State.topJava?_eq_some.mp hg0
  have hr' : (T.setVm vm').frames = .java g₀ :: r := hr
  rw [State.setTop_of_frames _ hr'] at hrest
  have hst : (((T.setTop g).pushFrame (.throwing a)).setVm vm').setFrames (.java { g with pc := pcH, stack := [.ref a] } :: T.frames.tail) = (T.setVm vm').setFrames (.java { g with pc := pcH, stack := [.ref a] } :: r) := by
    have hcomm : ∀ (B : State) (x : List Frame), (B.setFrames x).setVm vm' = (B.setVm vm').setFrames x := fun _ _ => rfl
    rw [hr, State.setTop_of_frames _ hr, State.pushFrame, hcomm, hcomm, State.setFrames_setFrames, State.setFrames_setFrames]
    rfl
  rw [hst]
  exact hrest
end MmCatchAt
end
section
/-! AN EXCEPTION's CONSTRUCTOR, with what it leaves of the heap: its own cell alone is changed. -/
section MmMade
variable {p : Program} {l : Launch} {e : Env} {R : Room} {s : State} {m₀ : MethodId} {args : Array Value} {below : List Frame} {meth : Method} {c : Code} {V : State} {locs : List Loc} {cells slots : Nat}
set_option maxHeartbeats 1000000 in
theorem mm_made (X : Stand p l e R s m₀ args below meth c V locs cells slots) (hexec : p.tables.exec = Jvm.exec) (htr : e.platform.stackTraces = false) {own cls : String} {names : List String} {ic : Nat}
    (hown : s.vm.findClass own = some m₀.cls) (hcls : Bundle.fit cls = true) (hnames : ∀ n ∈ names, Bundle.fit n = true) (h : ∀ a ∈ Bundle.ownAtoms own ic cls names, a.before args s = true) (hlocs : ∀ x ∈ locs, ∀ cell, s.heap[x.base]? = some cell → cell.vm.isStatics = false)
    {a : Addr} {cX : ClassId} {kX : Class} (hfoundX : s.vm.findClass cls = some cX) (hkX : s.vm.classes[cX]? = some kX) (hcell : V.heap[a]? = some (freshCell cX kX)) (hnew : s.heap.size ≤ a) {msg : Value} (hmsg : msg.isRef = true)
    {g : JFrame} (hg : g.method = m₀) (hsize : g.locals.size = c.maxLocals) {rest : List Value} (hstack : g.stack = msg :: .ref a :: rest) (hd6 : decode c.code g.pc = .ok (.invokespecial ic, 3))
    (hRframes : names.length + 3 < R.frames) (hRlocals : 2 * g.monitorRoom + (rest.map fun v => v.category).sum + (13 * (names.length + 1) + 42) ≤ R.locals) :
    ∃ (vm' : Vm) (ce : Cell) (lc : List Loc), ce.cls = cX ∧ ce.vm = .none ∧ (∀ x ∈ lc, x.base = a) ∧ Stand p l e R s m₀ args below meth c ((V.setVm vm').setCell a ce) (locs ++ lc) cells slots ∧
      ∀ target, Steps p.tables e below (((V.setVm vm').setCell a ce).setTop { g with pc := g.pc + 3, stack := rest }) target → Steps p.tables e below (V.setTop g) target := by
  have howns : e.platform.frameOwnsMonitors = true := by rw [X.admits.platform]
  have hfin : e.platform.finalization = false := by rw [X.admits.platform]
  have hpl : e.platform.magicAccessors = ({} : Platform).magicAccessors := by rw [X.admits.platform]
  have h' : ∀ x, x ∈ Bundle.ownAtoms own ic cls names → x.holds args s none s [] = true := fun x hx => h x hx
  obtain ⟨T, Z0, LT, -, Y⟩ := ThrowableC.of_atoms (args := args) howns hfin hpl (fun x hx => h x (by simp [Bundle.ownAtoms, hx]))
  obtain ⟨Z, M, LZ, LM, hnZ⟩ := Init0T.ofS_atoms (args := args) hpl LT Y (fun x hx => h x (by simp [Bundle.ownAtoms, hx]))
  obtain ⟨P1, Ps, hlen, L1, hL, hP1m, hlink1, hlink⟩ := Bundle.chainS (args := args) hpl hnZ names cls hcls hnames (fun x hx => h x (by simp [Bundle.ownAtoms, hx]))
  have hfound : s.vm.findClass cls = some P1.m.cls := findClass_of_methodNamed hP1m
  cases Option.some.inj (hfoundX.symm.trans hfound)
  obtain ⟨c1, kX', hc1, hk, hord, -, -, hn6⟩ := Cond.instantiable_spec (h' (.instantiable cls 6) (by simp [Bundle.ownAtoms]))
  cases Option.some.inj (hc1.symm.trans hfound)
  cases Option.some.inj (hkX.symm.trans hk)
  have sel : ∀ (x : MethodName) (mx : MethodId), Cond.selects cls x x ∈ Bundle.ownAtoms own ic cls names → s.methodNamed? x = some mx → (x.cls ≠ "java/lang/invoke/MethodHandle" ∧ x.cls ≠ "java/lang/invoke/VarHandle") → selectMethod e.platform s.vm P1.m.cls mx = .method mx := by
    intro x mx hx hn hy
    obtain ⟨c2, r2, m2, q1, q2, q3, q4, -⟩ := Cond.selects_spec (h' _ hx)
    cases Option.some.inj (q1.symm.trans hfound)
    cases Option.some.inj (q2.symm.trans (State.methodFound?_of_named hn hy))
    cases Option.some.inj (q3.symm.trans hn)
    rw [Launch.admits_selectMethod X.admits]; exact q4
  obtain ⟨cellS0, hcS0, hiss⟩ := Y.statics
  obtain ⟨u0, hu0⟩ := Cond.staticRefV Y.unassigned LT.unassignedStatic LT.statics hcS0 hiss (h' (.isRef (.static Bundle.tN "UNASSIGNED_STACK" Bundle.steD)) (by simp [Bundle.ownAtoms]))
  obtain ⟨sen, hsen⟩ := Cond.staticRefV Y.sentinel LT.sentinelStatic LT.statics hcS0 hiss (h' (.isRef (.static Bundle.tN "SUPPRESSED_SENTINEL" Bundle.listD)) (by simp [Bundle.ownAtoms]))
  obtain ⟨ci198, i198, fB, hk198, hg198, ha198, hsB, -, hnB, htB, hffB⟩ := Cond.ownField (t := .object "java/lang/Object") Y.found LT.cls (by decide +kernel) (h' (.fieldLink Bundle.tN 198 Bundle.tN "backtrace" "Ljava/lang/Object;") (by simp [Bundle.ownAtoms])) (h' (.lays Bundle.tN Bundle.tN "backtrace" "Ljava/lang/Object;") (by simp [Bundle.ownAtoms])) e.platform hpl
  obtain ⟨cellS, hcS', heS, -, hkeep⟩ := X.same.2.2.2.2.2 T.aS cellS0 hcS0
  have hcellS : V.heap[T.aS]? = some cellS := hcS'
  have hout' : ∀ i, (⟨T.aS, i⟩ : Loc) ∉ locs := fun i hmem => by
    have := hlocs _ hmem cellS0 hcS0
    rw [hiss] at this; cases this
  have hknownS : cellS.vm ≠ .unknown := by
    rw [heS]; intro hu
    rw [show cellS0.vm = .unknown from hu] at hiss
    cases hiss
  have hneS : T.aS ≠ a := Nat.ne_of_lt (Nat.lt_of_lt_of_le (Array.getElem?_eq_some_iff.mp hcS0).1 hnew)
  obtain ⟨iM, hffM⟩ := Y.msg
  obtain ⟨tyC, dC, hdC, hdnC⟩ := Cond.laysAt hfound hk Y.cause (h' (.lays cls Bundle.tN "cause" "Ljava/lang/Throwable;") (by simp [Bundle.ownAtoms]))
  obtain ⟨tyS, dS, hdS, hdnS⟩ := Cond.laysAt hfound hk Y.stack (h' (.lays cls Bundle.tN "stackTrace" Bundle.steD) (by simp [Bundle.ownAtoms]))
  obtain ⟨tyP, dP, hdP, hdnP⟩ := Cond.laysAt hfound hk Y.supp (h' (.lays cls Bundle.tN "suppressedExceptions" Bundle.listD) (by simp [Bundle.ownAtoms]))
  obtain ⟨tyM, dM, hdM, hdnM⟩ := Cond.laysAt hfound hk hffM (h' (.lays cls Bundle.tN "detailMessage" "Ljava/lang/String;") (by simp [Bundle.ownAtoms]))
  obtain ⟨tyB, dB, hdB, hdnB⟩ := Cond.laysAt hfound hk hffB (h' (.lays cls Bundle.tN "backtrace" "Ljava/lang/Object;") (by simp [Bundle.ownAtoms]))
  have bC := Cond.laysApart hdB hdC hdnB hdnC (by rw [hnB, Y.causeName]; decide)
  have bS := Cond.laysApart hdB hdS hdnB hdnS (by rw [hnB, Y.stackName]; decide)
  have bP := Cond.laysApart hdB hdP hdnB hdnP (by rw [hnB, Y.suppName]; decide)
  have hskip : SkipFacts T e.platform s (fun u => u) u0 ((preparedCellV T.toThrowableT (freshCell P1.m.cls kX) a u0 sen).withEntry V.cur) :=
    ⟨{ ci198 := ci198, i198 := i198, fBack := fB }, ⟨hk198, hg198, ha198, hsB⟩, by
      have := fresh_default (c := P1.m.cls) tyB
      rw [htB] at this
      simpa [preparedCellV, Cell.setSlot, Cell.withEntry, Array.getElem?_setIfInBounds, bC, bS, bP, bC.symm, bS.symm, bP.symm, defaultValue] using this, fun _ _ => rfl⟩
  obtain ⟨tm, methC, cdC, kC, vm₁, hnC, -, -, -, -, -, -, -, hW₁, st1⟩ := Steps.initColdS (tb := p.tables) (e := e) (below := below) (s := s) (U := V) X.here hexec X.warmed hpl hown (t := Bundle.initS cls) rfl rfl (Bundle.fit_spec hcls).2
    (h' (.methodLink own ic (Bundle.initS cls)) (by simp [Bundle.ownAtoms])) (h (.instanceMethod (Bundle.initS cls)) (by cases names <;> simp [Bundle.ownAtoms, Bundle.chainSAtoms, Bundle.passSAtoms])) (bytes := Bundle.six) (maxL := 2) (h (.code (Bundle.initS cls) Bundle.six 2 none) (by cases names <;> simp [Bundle.ownAtoms, Bundle.chainSAtoms, Bundle.passSAtoms]))
    (f := g) hg (a := a) (msg := msg) (rest := rest) hstack hd6
  cases Option.some.inj (hnC.symm.trans hP1m)
  have X₁ := X.noted hW₁
  obtain ⟨vm₂, X₂, st2⟩ := X₁.ctorMessageOffV hexec (g := { g with stack := rest }) hg hsize T LT Z LZ M LM (P1 :: Ps)
    (fun P hP => by rcases List.mem_cons.mp hP with rfl | hP; exact L1; exact hL P hP) ⟨hlink1, hlink⟩ (u0 := u0) (sen := sen) (self := a) hmsg (cell := freshCell P1.m.cls kX) (cellS := cellS)
    hcell (fun _ => by simp) (by simp) rfl rfl (sel _ _ (by simp [Bundle.ownAtoms]) Y.fill0 (by decide)) (sel _ _ (by simp [Bundle.ownAtoms]) Y.fill (by decide)) hcellS hneS hknownS (by rw [hkeep _ (hout' _)]; exact hu0) (by rw [hkeep _ (hout' _)]; exact hsen)
    (Takes.of_laid hk hord tyC (by rw [Y.causeType]; rfl)) (Takes.of_laid hk hord tyS (by rw [Y.stackType]; exact fits_refV_array _ u0)) (Takes.of_laid hk hord tyP (by rw [Y.suppType]; exact fits_refV_object _ sen))
    (Takes.of_laid hk hord tyM (by rw [Y.msgType]; exact fits_refV_object _ ⟨msg, hmsg⟩)) Y.objLocals hskip htr [] hd6
    (by simp only [List.length_cons, hlen]; omega) (by simp only [List.length_cons, hlen]; exact hRlocals)
  refine ⟨vm₂, _, _, ?_, ?_, ?_, X₂, fun target ht => st1 _ (fun acts => ?_)⟩
  · rfl
  · rfl
  · intro x hx
    simp only [List.mem_cons, List.not_mem_nil, or_false] at hx
    rcases hx with rfl | rfl | rfl | rfl | rfl <;> rfl
  · rw [doInvoke_state]
    exact st2 _ ht
end MmMade
end
section
/-! WHAT HOLDS AT THE LAW's START s0 HOLDS AT EVERY METHOD's START s: the tables are only warmer, the cells that were there are as they were. -/
def mm_B (s0 : State) (z : Nat) (s : State) : Prop := s0.WarmedH s.vm ∧ s0.heap.size = z ∧ ∀ q, q < z → s.heap[q]? = s0.heap[q]?
section MmBase
variable {s0 s : State} {z : Nat} {a0 args : Array Value}
theorem mm_B.good (B : mm_B s0 z s) {w : Cond} (hg : goodWord w = true) (h : w.before a0 s0 = true) : w.before args s = true := word_at B.1 (good_of_word hg) h
theorem mm_B.castable (B : mm_B s0 z s) {x y : String} (h : (Cond.castable x y).before a0 s0 = true) : (Cond.castable x y).before args s = true := by
  have h1 : (Cond.castable x y).before a0 (s0.setVm s.vm) = true := Cond.before_shiftedFace (State.Shifted.of_warmed B.1) _ rfl h
  exact h1
theorem mm_B.declares (B : mm_B s0 z s) {x : MethodName} (h : (Cond.declares x).before a0 s0 = true) : (Cond.declares x).before args s = true := by
  have h1 : (Cond.declares x).before a0 (s0.setVm s.vm) = true := Cond.before_shiftedFace (State.Shifted.of_warmed B.1) _ rfl h
  exact h1
theorem mm_B.laysStatic (B : mm_B s0 z s) {C n d : String} (h : (Cond.laysStatic C n d).before a0 s0 = true) : (Cond.laysStatic C n d).before args s = true := by
  have h1 : (Cond.laysStatic C n d).before a0 (s0.setVm s.vm) = true := Cond.laysStatic_setVm B.1.alike h
  obtain ⟨c, k, i, f, a, cell, q1, q2, q3, q4, q5, q6, q7, q8, q9⟩ := Cond.laysStatic_spec h1
  have q5' : s0.heap[a]? = some cell := q5
  have q5 : s.heap[a]? = some cell := by
    rw [B.2.2 a (by rw [← B.2.1]; exact (Array.getElem?_eq_some_iff.mp q5').1)]; exact q5'
  have q1 : s.vm.findClass C = some c := q1
  have q2 : s.fieldFound? C n d = some (c, k, i, f) := q2
  simp [Cond.before, Cond.holds, Cond.value, q1, q2, q3, q4, q5, q6, q7, q8, q9]
theorem mm_B.isRefStatic (B : mm_B s0 z s) {C n d : String} (hl : (Cond.laysStatic C n d).before a0 s0 = true) (h : (Cond.isRef (.static C n d)).before a0 s0 = true) : (Cond.isRef (.static C n d)).before args s = true := by
  have hv : ∃ v, (Term.static C n d).eval a0 s0 none [] s0 = some v ∧ (v = .null ∨ ∃ q, v = .ref q) := by
    simp only [Cond.before, Cond.holds, Cond.value] at h
    cases hv : (Term.static C n d).eval a0 s0 none [] s0 with
    | none => simp [hv] at h
    | some v => exact ⟨v, rfl, by cases v <;> simp [hv] at h <;> simp⟩
  obtain ⟨v, hv, hr⟩ := hv
  obtain ⟨c, k, i, f, a, cell, q1, q2, q3, q4, q5, q6, q7, q8, q9⟩ := Cond.laysStatic_spec hl
  obtain ⟨-, a', cell', ha', hcell', hun, hslot⟩ := Term.static_spec q2 hv
  cases q4.symm.trans ha'
  cases q5.symm.trans hcell'
  have q5' : s.heap[a]? = some cell := by
    rw [B.2.2 a (by rw [← B.2.1]; exact (Array.getElem?_eq_some_iff.mp q5).1)]; exact q5
  obtain ⟨k', hi', he⟩ := State.fieldFound?_setVm (vm' := s.vm) B.1.alike q2
  have hi' : s.fieldFound? C n d = some (c, k', i, f) := hi'
  have hst' : k'.statics = some a := by rw [he]; exact q4
  have : (Term.static C n d).eval args s none [] s = some v := by
    simp [Term.eval, State.fieldNamed?, hi', q3, hst', q5', q6, hslot]
  rcases hr with rfl | ⟨q, rfl⟩ <;> simp [Cond.before, Cond.holds, Cond.value, this]
theorem mm_B.over (B : mm_B s0 z s) {C : String} (h : (Cond.arrayOver (.object C)).before a0 s0 = true) : (Cond.arrayOver (.object C)).before args s = true :=
  va_AO.use (va_AO.moved B.1.alike (va_AO.of h))
theorem mm_B.string (B : mm_B s0 z s) {own tx : String} {i : Nat} (h : (Cond.stringRef own i tx).before a0 s0 = true) : ∃ a, vk_R own i tx a s := by
  have hc : ∃ cur, s0.vm.findClass own = some cur := by
    have h1 := h
    simp only [Cond.before, Cond.holds, Cond.value] at h1
    cases hc : s0.vm.findClass own with
    | none => simp [hc] at h1
    | some cur => exact ⟨cur, rfl⟩
  obtain ⟨cur, hc⟩ := hc
  obtain ⟨k, cf, i', a, -, -, -, -, -, he⟩ := Cond.stringRef_spec hc h
  exact ⟨a, vk_R.warm B.1 (vk_R.of h he)⟩
theorem mm_B.refl (hz : s0.heap.size = z) : mm_B s0 z s0 := ⟨State.WarmedH.refl s0, hz, fun _ _ => rfl⟩
end MmBase
theorem mm_B.overA {s0 s : State} {z : Nat} {a0 args : Array Value} (B : mm_B s0 z s) {y : FieldType} (h : (Cond.arrayOver (.array y)).before a0 s0 = true) : (Cond.arrayOver (.array y)).before args s = true := by
  obtain ⟨comp, c, k, h1, h2, h3, h4, h5⟩ := arrayOverA_spec h
  have hvm := B.1.alike
  obtain ⟨k', hk', he⟩ := hvm.2.2 _ _ h3
  have hi : (s.vm.classes.findIdx? fun (x : Class) => match x.kind with | .array component _ => component == comp | _ => false) = some c := by
    rw [hvm.findIdx?_eq _ (fun _ => rfl)]; exact h2
  have hkind : k'.kind = .array comp (.array y) := by rw [he]; exact h4
  have f1 : s.vm.findClass (FieldType.array y).toString = some comp := by rw [hvm.findClass]; exact h1
  have f2 : s.vm.findClass ("[" ++ (FieldType.array y).toString) = some c := by rw [hvm.findClass]; exact h5
  unfold Cond.before Cond.holds
  simp only [Cond.value]
  rw [f1, Option.bind_some]
  refine (congrArg (fun o : Option Nat => (o.bind (fun c => (s.vm.classes[c]?).map fun (k : Class) => match k.kind with | .array _ ty => decide (ty = FieldType.array y) && decide (s.vm.findClass ("[" ++ (FieldType.array y).toString) = some c) | _ => false) == some true)) hi).trans ?_
  simp [hk', hkind, f2]
theorem mm_B.nest {s0 s : State} {z : Nat} {a0 args : Array Value} (B : mm_B s0 z s) {a : String} {i : Nat} {x : MethodName} {h : String} (hw : (Cond.methodLinkNest a i x h).before a0 s0 = true) : (Cond.methodLinkNest a i x h).before args s = true :=
  va_Nw.use rfl (va_Nw.warmM B.1 (va_Nw.of rfl hw))
def mm_gw (w : Cond) : Bool := goodWord w || match w with
  | .castable _ _ => true
  | .declares _ => true
  | .laysStatic _ _ _ => true
  | .arrayOver (.object _) => true
  | .arrayOver (.array _) => true
  | .methodLinkNest _ _ _ _ => true
  | _ => false
theorem mm_B.word {s0 s : State} {z : Nat} {a0 args : Array Value} (B : mm_B s0 z s) {w : Cond} (hg : mm_gw w = true) (h : w.before a0 s0 = true) : w.before args s = true := by
  unfold mm_gw at hg
  rcases Bool.or_eq_true _ _ |>.mp hg with h1 | h1
  · exact B.good h1 h
  · split at h1
    · exact B.castable h
    · exact B.declares h
    · exact B.laysStatic h
    · exact B.over h
    · exact B.overA h
    · exact B.nest h
    · cases h1
end
section
/-! THE SMALL MACHINE: a method's run is a Prop. -/
abbrev mm_O : Type := Option Value ⊕ (Nat × Nat)
abbrev mm_K : Type := mm_O → List va_E → Nat → Prop
def mm_look : List (Nat × Instr) → Nat → Option Instr
  | [], _ => none
  | q :: r, pc => if q.1 = pc then some q.2 else mm_look r pc
theorem mm_look_mem {pc : Nat} {ins : Instr} : ∀ {l : List (Nat × Instr)}, mm_look l pc = some ins → (pc, ins) ∈ l
  | [], h => by simp [mm_look] at h
  | q :: r, h => by
    unfold mm_look at h
    split at h
    · rename_i hq
      cases h
      subst hq
      exact List.mem_cons_self
    · exact List.mem_cons_of_mem _ (mm_look_mem h)
/-- so many values off the stack, in the order of a call's -/
def mm_take : Nat → List Value → List Value → Option (List Value × List Value)
  | 0, as, st => some (as, st)
  | _ + 1, _, [] => none
  | n + 1, as, v :: st => mm_take n (v :: as) st
theorem mm_take_ok : ∀ (n : Nat) (as st as' r : List Value), mm_take n as st = some (as', r) → ∃ bs, as' = bs ++ as ∧ bs.length = n ∧ st = bs.reverse ++ r
  | 0, as, st, as', r, h => by
    simp only [mm_take, Option.some.injEq, Prod.mk.injEq] at h
    exact ⟨[], by simp [h.1], rfl, by simp [h.2]⟩
  | n + 1, as, [], as', r, h => by simp [mm_take] at h
  | n + 1, as, v :: st, as', r, h => by
    obtain ⟨bs, h1, h2, h3⟩ := mm_take_ok n (v :: as) st as' r h
    exact ⟨bs ++ [v], by simp [h1], by simp [h2], by simp [h3]⟩
def mm_cats (st : List Value) : Nat := (st.map fun v => v.category).sum
theorem mm_cats_S (A : Nat → Nat) (st : List Value) : ((mm_S A st).map fun v => v.category).sum = mm_cats st := by
  simp only [mm_S, mm_cats, List.map_map]
  congr 1
  exact List.map_congr_left (fun v _ => mm_cat A v)
/-- does the receiver fit a call: its class is the method's -/
def mm_recv (P : mm_P) (k' : Nat) (as : List Value) (g : List va_E) : Bool := match as with
  | .ref (q + 1) :: _ => match g[q]? with
    | some (.inr (ci, _)) => decide (ci = mm_kc P k')
    | _ => false
  | _ => false
def mm_isref : List Value → Bool
  | .ref _ :: _ => true
  | _ => false
abbrev mm_Call : Type := Nat → List Value → List va_E → Nat → mm_K → Prop
/-- what is done behind a call -/
def mm_back (P : mm_P) (k : Nat) (nx : Nat → List Value → List va_E → Nat → Prop) (Q : mm_K) (pc : Nat) (r : List Value) : mm_K := fun o g sl => match o with
  | .inl v => nx (pc + 3) (v.toList ++ r) g sl
  | .inr x => match mm_kh P k pc x.1 with
    | some h => h ≠ 999999 ∧ nx h [.ref x.2] g sl
    | none => Q (.inr x) g sl
def mm_s3 (P : mm_P) (call : mm_Call) (k : Nat) (nx : Nat → List Value → List va_E → Nat → Prop) (Q : mm_K) (ins : Instr) (pc : Nat) (st : List Value) (g : List va_E) (sl : Nat) : Prop :=
  match ins with
  | .ireturn => match st with
    | [.int x] => match mm_kr P k with
      | some .int => Q (.inl (some (.int x))) g sl
      | some ty => narrow ty (.int x) = .int x ∧ Q (.inl (some (.int x))) g sl
      | none => False
    | _ => False
  | .lreturn => match st with
    | [.long x] => match mm_kr P k with
      | some .long => Q (.inl (some (.long x))) g sl
      | _ => False
    | _ => False
  | .areturn => match st with
    | [v] => match mm_kind 2 v with
      | true => match mm_kr P k with
        | some (.object _) => Q (.inl (some v)) g sl
        | some (.array _) => Q (.inl (some v)) g sl
        | _ => False
      | false => False
    | _ => False
  | .return_ => match st with
    | [] => match mm_kr P k with
      | none => Q (.inl none) g sl
      | some _ => False
    | _ => False
  | .invokestatic i => match mm_ml P (mm_kc P k) i with
    | some (k', na, 0) => match mm_take na [] st with
      | some (as, r) => match decide (mm_cats r + mm_kl P k' + 11 ≤ 64 ∧ mm_cats as ≤ mm_kl P k') with
        | true => call k' as g sl (mm_back P k nx Q pc r)
        | false => False
      | none => False
    | some (k', na, 5) => match mm_take na [] st with
      | some (as, r) => match decide (mm_cats r + mm_kl P k' + 11 ≤ 64 ∧ mm_cats as ≤ mm_kl P k') with
        | true => call k' as g sl (mm_back P k nx Q pc r)
        | false => False
      | none => False
    | some (_, _, 4) => match st with
      | .int n :: .int dp :: .ref (q2 + 1) :: .int sp :: .ref (q1 + 1) :: r => match g[q1]? with
        | some (.inl (1, n1, .inr (.inl f1))) => match g[q2]? with
          | some (.inl (1, n2, .inr (.inl f2))) => match decide (mm_cats r ≤ 24) with
            | true => (¬ sp < 0 ∧ ¬ dp < 0 ∧ ¬ n < 0 ∧ sp.toNatClampNeg + n.toNatClampNeg ≤ n1 ∧ dp.toNatClampNeg + n.toNatClampNeg ≤ n2) ∧ nx (pc + 3) r (g.set q2 (.inl (1, n2, .inr (.inl (va_cpy f1 f2 sp.toNatClampNeg dp.toNatClampNeg n.toNatClampNeg))))) sl
            | false => False
          | _ => False
        | _ => False
      | _ => False
    | _ => False
  | .invokevirtual i => match mm_ml P (mm_kc P k) i with
    | some (k', na, 1) => match mm_take na [] st with
      | some (as, r) => match decide (mm_cats r + mm_kl P k' + 11 ≤ 64 ∧ mm_cats as ≤ mm_kl P k') && mm_recv P k' as g with
        | true => call k' as g sl (mm_back P k nx Q pc r)
        | false => False
      | none => False
    | _ => False
  | .invokespecial i => match mm_ml P (mm_kc P k) i with
    | some (k', na, 2) => match mm_take na [] st with
      | some (as, r) => match decide (mm_cats r + mm_kl P k' + 11 ≤ 64 ∧ mm_cats as ≤ mm_kl P k') && mm_isref as with
        | true => call k' as g sl (mm_back P k nx Q pc r)
        | false => False
      | none => False
    | some (_, _, 3) => match st with
      | .ref _ :: r => match decide (mm_cats r + 12 ≤ 64) with
        | true => nx (pc + 3) r g sl
        | false => False
      | _ => False
    | _ => False
  | _ => False
def mm_w (P : mm_P) (Ln : Nat) (xs : Nat → Int32) (call : mm_Call) (k : Nat) : Nat → Nat → List (Nat × Value) → List Value → List va_E → Nat → mm_K → Prop
  | 0, _, _, _, _, _, _ => False
  | n + 1, pc, ls, st, g, sl, Q =>
    match mm_xt P k pc with
    | some ci => (g.length + 1 ≤ mm_CM P ∧ sl + 6 ≤ mm_SM P ∧ mm_cats st ≤ 8) ∧ Q (.inr (ci, g.length + 1)) (g ++ [.inr (ci, [])]) (sl + 6)
    | none =>
    match mm_sw P k pc with
    | some (lo, dt, ts) => match st with
      | .int x :: r => ((x.toInt < lo ∨ lo + (ts.length : Int) - 1 < x.toInt) → mm_w P Ln xs call k n dt ls r g sl Q) ∧ ∀ (i t : Nat), ts[i]? = some t → x.toInt = lo + (i : Int) → mm_w P Ln xs call k n t ls r g sl Q
      | _ => False
    | none =>
    match mm_look (mm_kd P k) pc with
    | none => False
    | some ins =>
    match mm_s1 (mm_kl P k) (fun pc ls st => mm_w P Ln xs call k n pc ls st g sl Q) ins pc ls st with
    | some X => X
    | none =>
    match mm_s2 P k Ln xs (fun pc st g sl => mm_w P Ln xs call k n pc ls st g sl Q) ins pc st g sl with
    | some X => X
    | none => mm_s3 P call k (fun pc st g sl => mm_w P Ln xs call k n pc ls st g sl Q) Q ins pc st g sl
def mm_call (P : mm_P) (Ln : Nat) (xs : Nat → Int32) : Nat → mm_Call
  | 0 => fun _ _ _ _ _ => False
  | d + 1 => fun k as g sl Q => ∃ n, mm_w P Ln xs (mm_call P Ln xs d) k n 0 (lv_args 0 as) [] g sl Q
end
section
/-! INTO A CALL AND OUT OF IT. -/
def mm_out (b z : Nat) (xX : Nat → Prop) (g : List va_E) (oc : mm_O) (o : Outcome) : Prop := match oc with
  | .inl v => o = .returned (v.map (mm_v (mm_A b z)))
  | .inr x => o = .threw (mm_A b z x.2) ∧ xX x.1 ∧ ∃ q, x.2 = q + 1 ∧ g[q]? = some (.inr (x.1, []))
def mm_end (P : mm_P) (D : va_G) (cl : List vw_C) (cT : Nat → Nat) (b z Ln : Nat) (xs : Nat → Int32) (xX : Nat → Prop) (s : State) (below : List Frame) (gl0 sl0 : Nat) (Q : mm_K) : State → Prop := fun t =>
  ∃ (o : Outcome) (oc : mm_O) (g' : List va_E) (sl' : Nat) (lc : List Loc) (ce ss : Nat), t.status = .running ∧ Ended t below o ∧ s.WarmedH t.vm ∧ s.sameButNew ({ t with vm := s.vm } : State) lc ce ss ∧ mm_R D cl cT b z Ln xs s g' t.heap lc ∧ mm_cnt P gl0 sl0 ce ss g' sl' ∧ Q oc g' sl' ∧ mm_out b z xX g' oc o
theorem mm_args (A : Nat → Nat) : ∀ (as : List Value) (i : Nat), lv_args i (mm_S A as) = mm_L A (lv_args i as)
  | [], i => rfl
  | v :: r, i => by
    have := mm_args A r (if v.category = 2 then i + 2 else i + 1)
    simp only [mm_S, List.map_cons, lv_args, mm_cat, mm_L] at this ⊢
    rw [this]
theorem mm_slots (A : Nat → Nat) : ∀ (as : List Value), (lg_sl (mm_S A as)).length = mm_cats as
  | [] => rfl
  | v :: r => by
    have := mm_slots A r
    simp only [mm_S, List.map_cons, lg_sl, List.flatMap_cons, List.length_append, mm_cats, List.sum_cons, mm_cat] at this ⊢
    rw [this]
    rcases lv_cat v with h | h <;> simp [h]
theorem mm_R.start {D : va_G} {cl : List vw_C} {cT : Nat → Nat} {b z Ln : Nat} {xs : Nat → Int32} {s s' : State} {g : List va_E} {H : Heap} {locs : List Loc} (r : mm_R D cl cT b z Ln xs s g H locs) (hH : s'.heap = H) (hvm : s.vm.Alike s'.vm) : mm_R D cl cT b z Ln xs s' g H [] := by
  obtain ⟨h1, h2, h3, h4, h5, h6⟩ := id r
  refine ⟨h1, h2, by rw [hH]; exact va_S.rf, ?_, h5, by rw [hH]; omega⟩
  rw [hH]
  exact va_X.moved hvm r.X
theorem mm_R.after {D : va_G} {cl : List vw_C} {cT : Nat → Nat} {b z Ln : Nat} {xs : Nat → Int32} {s s' : State} {g g' : List va_E} {H H' : Heap} {locs lc : List Loc} (r : mm_R D cl cT b z Ln xs s g H locs) (hH : s'.heap = H) (r' : mm_R D cl cT b z Ln xs s' g' H' lc) : mm_R D cl cT b z Ln xs s g' H' (locs ++ lc) := by
  obtain ⟨h1, h2, h3, h4, h5, h6⟩ := r
  obtain ⟨k1, k2, k3, k4, k5, k6⟩ := r'
  rw [hH] at k3
  refine ⟨k1, k2, ⟨Nat.le_trans h3.1 k3.1, fun q hq hn => ?_, fun l hl => ?_⟩, h4, h5, h6⟩
  · rw [k3.2.1 q (by have := h3.1; omega) hn]
    exact h3.2.1 q hq hn
  · rcases List.mem_append.mp hl with q | q
    · exact h3.2.2 l q
    · exact k3.2.2 l q
section MmEnter
variable {p : Program} {l : Launch} {e : Env} {R : Room} {s : State} {m : MethodId} {args : Array Value} {below : List Frame} {meth : Method} {c : Code} {T : State} {locs : List Loc} {cells slots : Nat} {D : va_G} {cl : List vw_C} {cT : Nat → Nat} {b z Ln : Nat} {xs : Nat → Int32} {P : mm_P} {gl0 sl0 sl : Nat} {xX : Nat → Prop} {gq : List va_E}
theorem mm_enter (X : Stand p l e R s m args below meth c T locs cells slots) {g : JFrame} (hg : g.method = m) (hsize : g.locals.size = c.maxLocals) {ig : Instr} (hdg : decode c.code g.pc = .ok (ig, 3)) (hmr : g.monitorRoom = 0)
    {mk : MethodId} {methk : Method} {ck : Code} (as : List Value) (hmk : T.vm.method? mk = some methk) (hck : methk.code = some ck) (hlk : methk.locks = false) (hpk : T.plainMethod mk) {R' : Room} (hframes : R'.frames + 1 ≤ R.frames) (hlocals : (g.stack.map fun v => v.category).sum + (ck.maxLocals + 11) + R'.locals ≤ R.locals) (hcells : cells + R'.cells ≤ R.cells) (hslots : slots + R'.slots ≤ R.slots)
    (hR : mm_R D cl cT b z Ln xs s gq T.heap locs) (hcat : mm_cats as ≤ ck.maxLocals) {Q' : mm_K} (hcnt : mm_cnt P gl0 sl0 cells slots gq sl)
    (hW : ∀ L, lv_has L ck.maxLocals (mm_L (mm_A b z) (lv_args 0 as)) → mm_R D cl cT b z Ln xs (T.calling g mk (mm_S (mm_A b z) as).toArray) gq T.heap [] → W p l e R' (T.calling g mk (mm_S (mm_A b z) as).toArray) mk (mm_S (mm_A b z) as).toArray (.java g :: below) methk ck T.heap [] 0 0 (mm_end P D cl cT b z Ln xs xX (T.calling g mk (mm_S (mm_A b z) as).toArray) (.java g :: below) gq.length sl Q') (F0 mk 0 L [])) :
    ∃ (oc : mm_O) (g' : List va_E) (sl' : Nat) (T' : State) (lc : List Loc) (ce ss : Nat), Stand p l e R s m args below meth c T' (locs ++ lc) (cells + ce) (slots + ss) ∧ mm_R D cl cT b z Ln xs s g' T'.heap (locs ++ lc) ∧ mm_cnt P gl0 sl0 (cells + ce) (slots + ss) g' sl' ∧ Q' oc g' sl' ∧
      match oc with
      | .inl v => ∀ acts, Steps p.tables e below (doInvoke e (T.setTop g) acts mk (mm_S (mm_A b z) as).toArray).1 (T'.setTop { g with pc := g.pc + 3, stack := (v.map (mm_v (mm_A b z))).toList ++ g.stack })
      | .inr x => xX x.1 ∧ (∃ q, x.2 = q + 1 ∧ g'[q]? = some (.inr (x.1, []))) ∧ ∀ acts, Steps p.tables e below (doInvoke e (T.setTop g) acts mk (mm_S (mm_A b z) as).toArray).1 ((T'.setTop g).pushFrame (.throwing (mm_A b z x.2))) := by
  obtain ⟨Y, hin⟩ := X.into hg hsize hdg (mm_S (mm_A b z) as).toArray (R' := R') hmk hck hlk hpk hframes (by rw [hmr]; omega) hcells hslots
  have hl := lv_entry (mm_S (mm_A b z) as) (n := ck.maxLocals) (by rw [mm_slots]; exact hcat)
  rw [mm_args] at hl
  rw [lg_entry_eq] at Y hin
  generalize (lg_sl (mm_S (mm_A b z) as) ++ List.replicate (ck.maxLocals - (lg_sl (mm_S (mm_A b z) as)).length) Slot.unset).toArray = L at hl Y hin
  have hheap : (T.calling g mk (mm_S (mm_A b z) as).toArray).heap = T.heap := by
    simp [State.calling, State.pushFrame, State.setFrames, State.setTop, State.modifyTopJava]
  have hvm : (T.calling g mk (mm_S (mm_A b z) as).toArray).vm = T.vm := by
    simp [State.calling, State.pushFrame, State.setFrames, State.setTop, State.modifyTopJava]
  have hUh : ((T.setTop g).pushFrame (.java (F0 mk 0 L []))).heap = T.heap := by
    simp [State.pushFrame, State.setFrames, State.setTop, State.modifyTopJava]
  have hal : s.vm.Alike (T.calling g mk (mm_S (mm_A b z) as).toArray).vm := by rw [hvm]; exact X.warmed.alike
  obtain ⟨t, hst, o, oc, g', sl', lc, ce, ss, -, hended, hWe, hsame, hR', hcnt', hQ, hout⟩ := hW L hl (hR.start hheap hal) _ hUh Y
  have hRa := hR.after hheap hR'
  obtain ⟨c1, c2, c3, c4⟩ := hcnt
  obtain ⟨d1, d2, d3, d4⟩ := hcnt'
  have hcn : mm_cnt P gl0 sl0 (cells + ce) (slots + ss) g' sl' := ⟨by omega, by omega, d3, d4⟩
  have hst := Steps.weaken (mid := [.java g]) hst
  cases oc with
  | inl v =>
    have ho : o = .returned (v.map (mm_v (mm_A b z))) := hout
    subst ho
    obtain ⟨T', X', -, -, ht⟩ := X.outOf hg hdg hended hWe hsame
    have hh : T'.heap = t.heap := by rw [ht]; simp [State.setTop, State.modifyTopJava]
    refine ⟨.inl v, g', sl', T', lc, ce, ss, X', by rw [hh]; exact hRa, hcn, hQ, fun acts => ?_⟩
    rw [hin acts, ← ht]
    exact hst
  | inr x =>
    obtain ⟨ho, hx, hq⟩ : o = .threw (mm_A b z x.2) ∧ xX x.1 ∧ ∃ q, x.2 = q + 1 ∧ g'[q]? = some (.inr (x.1, [])) := hout
    subst ho
    obtain ⟨T', X', -, -, ht⟩ := X.outOfThrown hg hended hWe hsame
    have hh : T'.heap = t.heap := by rw [ht, Stand.throwing_heap]
    refine ⟨.inr x, g', sl', T', lc, ce, ss, X', by rw [hh]; exact hRa, hcn, hQ, hx, hq, fun acts => ?_⟩
    rw [hin acts, ← ht]
    exact hst
end MmEnter
end
section
/-! THE SMALL MACHINE TELLS THE TRUTH of the great one. -/
/-- the word of a method's code -/
def mm_kw (P : mm_P) (ky : Nat → MethodName) (kb : Nat → ByteArray) (hs : Nat → List (Nat × Nat × Nat × Nat)) (TB : List Cond) (k : Nat) : Prop :=
  (Cond.code (ky k) (kb k) (mm_kl P k) (mm_kr P k) ∈ TB ∧ hs k = []) ∨ Cond.codeWith (ky k) (kb k) (mm_kl P k) (mm_kr P k) (hs k) ∈ TB
/-- the tables tell the truth, so far as code, calls, throws and catches go -/
def mm_ok3 (P : mm_P) (TB : List Cond) (SB : List (String × Nat × String)) (cl : List vw_C) (cn : Nat → String) (ky : Nat → MethodName) (kb : Nat → ByteArray) (hs : Nat → List (Nat × Nat × Nat × Nat)) (xc : Nat → Nat → Option Nat) (xX : Nat → Prop) : Prop :=
  (∀ k q, q ∈ mm_kd P k → decode (kb k) q.1 = .ok (q.2, mm_ln q.2))
  ∧ (∀ k pc lo dt ts, mm_sw P k pc = some (lo, dt, ts) → ∃ (dflt : Int) (offs : Array Int) (len : Nat), decode (kb k) pc = .ok (.tableswitch dflt lo (lo + (ts.length : Int) - 1) offs, len) ∧ (pc : Int) + dflt = (dt : Int) ∧ ∀ i t : Nat, ts[i]? = some t → ∃ off, offs[i]? = some off ∧ (pc : Int) + off = (t : Int))
  ∧ (∀ o i k' na kd, mm_ml P o i = some (k', na, kd) → kd ≠ 3 → kd ≠ 4 → mm_kw P ky kb hs TB k' ∧ (kd = 5 ∨ Cond.methodLink (cn o) i (ky k') ∈ TB) ∧ Cond.initialized (ky k').cls ∈ TB ∧ ((ky k').cls ≠ "java/lang/invoke/MethodHandle" ∧ (ky k').cls ≠ "java/lang/invoke/VarHandle") ∧ plainFor (ky k') = true ∧ cn (mm_kc P k') = (ky k').cls ∧ (mm_ki P k' = true → (ky k').name = "<init>")
      ∧ (kd = 5 → ∃ host, Cond.methodLinkNest (cn o) i (ky k') host ∈ TB)
      ∧ (kd = 0 ∨ kd = 5 → Cond.static (ky k') ∈ TB ∧ (parseMethodDescriptor (ky k').desc).map (fun d => d.parameters.length) = some na)
      ∧ (kd = 1 → Cond.instanceMethod (ky k') ∈ TB ∧ Cond.selects (ky k').cls (ky k') (ky k') ∈ TB ∧ (parseMethodDescriptor (ky k').desc).map (fun d => d.parameters.length + 1) = some na ∧ ∃ T N, cl[mm_kc P k']? = some ((ky k').cls, T, N))
      ∧ (kd = 2 → Cond.instanceMethod (ky k') ∈ TB ∧ (ky k').name = "<init>" ∧ mm_kr P k' = none ∧ Cond.code (ky k') (kb k') (mm_kl P k') none ∈ TB ∧ (parseMethodDescriptor (ky k').desc).map (fun d => d.parameters.length + 1) = some na))
  ∧ (∀ o i k' na, mm_ml P o i = some (k', na, 3) → Cond.methodLink (cn o) i Lib.objectInit ∈ TB ∧ Cond.instanceMethod Lib.objectInit ∈ TB ∧ Cond.code Lib.objectInit ⟨#[0xb1]⟩ 1 none ∈ TB)
  ∧ (∀ o i k' na, mm_ml P o i = some (k', na, 4) → Cond.methodLink (cn o) i arraycopyName ∈ TB ∧ Cond.native arraycopyName ∈ TB ∧ Cond.static arraycopyName ∈ TB ∧ Cond.initialized "java/lang/System" ∈ TB)
  ∧ (∀ k pc ci, mm_xt P k pc = some ci → xX ci ∧ (∀ x ∈ hs k, ¬ (x.1 ≤ pc + 9 ∧ pc + 9 < x.2.1)) ∧ ∃ (X : String) (T : u_T) (i si ic : Nat) (tx : String) (names : List String), cl[ci]? = some (X, T, 0)
      ∧ decode (kb k) pc = .ok (.new i, 3) ∧ decode (kb k) (pc + 3) = .ok (.dup, 1) ∧ decode (kb k) (pc + 4) = .ok (.ldc si, 2) ∧ decode (kb k) (pc + 6) = .ok (.invokespecial ic, 3) ∧ decode (kb k) (pc + 9) = .ok (.athrow, 1)
      ∧ Cond.classLink (cn (mm_kc P k)) i X ∈ TB ∧ Cond.instantiable X 6 ∈ TB ∧ Cond.initialized X ∈ TB ∧ (cn (mm_kc P k), si, tx) ∈ SB ∧ Bundle.fit X = true ∧ (∀ n ∈ names, Bundle.fit n = true) ∧ names.length = 2
      ∧ ∀ w ∈ Bundle.ownAtoms (cn (mm_kc P k)) ic X names, w ∈ TB ∨ w = .isRef (.static Bundle.tN "UNASSIGNED_STACK" Bundle.steD) ∨ w = .isRef (.static Bundle.tN "SUPPRESSED_SENTINEL" Bundle.listD))
  ∧ (∀ k pc ci, xX ci → (∀ h, mm_kh P k pc ci = some h → h ≠ 999999 → mm_hit (xc k) pc ci (hs k) = some h) ∧ (mm_kh P k pc ci = none → ∀ x ∈ hs k, ¬ (x.1 ≤ pc ∧ pc < x.2.1)))
  ∧ (∀ k ct cj, xc k ct = some cj → ct ≠ 0 ∧ xX cj ∧ ∃ X T, cl[cj]? = some (X, T, 0) ∧ Cond.classLink (cn (mm_kc P k)) ct X ∈ TB)
/-- what holds at the law's start -/
def mm_s0 (TB : List Cond) (SB : List (String × Nat × String)) (cl : List vw_C) (tyl : List FieldType) (D : va_G) (cT : Nat → Nat) (xX : Nat → Prop) (a0 : Array Value) (s0 : State) : Prop :=
  (∀ w ∈ TB, mm_gw w = true ∧ w.before a0 s0 = true) ∧ (∀ q ∈ SB, (Cond.stringRef q.1 q.2.1 q.2.2).before a0 s0 = true)
  ∧ ((Cond.laysStatic Bundle.tN "UNASSIGNED_STACK" Bundle.steD).before a0 s0 = true ∧ (Cond.isRef (.static Bundle.tN "UNASSIGNED_STACK" Bundle.steD)).before a0 s0 = true ∧ (Cond.laysStatic Bundle.tN "SUPPRESSED_SENTINEL" Bundle.listD).before a0 s0 = true ∧ (Cond.isRef (.static Bundle.tN "SUPPRESSED_SENTINEL" Bundle.listD)).before a0 s0 = true)
  ∧ va_K D cl (mm_T cT 0 tyl) s0 ∧ ∀ ci cj, xX ci → xX cj → (s0.vm.assignable (D.1 ci) (D.1 cj) = true ↔ cj = ci)
/-- what holds of a method that is walked -/
def mm_C (P : mm_P) (cn : Nat → String) (kb : Nat → ByteArray) (hs : Nat → List (Nat × Nat × Nat × Nat)) (s0 : State) (z : Nat) (k : Nat) (p : Program) (s : State) (m : MethodId) (meth : Method) (c : Code) : Prop :=
  p.tables.exec = Jvm.exec ∧ c.code = kb k ∧ c.maxLocals = mm_kl P k ∧ meth.sig.returnType = mm_kr P k ∧ meth.locks = false ∧ s.vm.findClass (cn (mm_kc P k)) = some m.cls ∧ (mm_ki P k = true → meth.name = "<init>")
  ∧ c.exceptionTable.toList.map (fun h => (h.startPc, h.endPc, h.handlerPc, h.catchType)) = hs k ∧ mm_B s0 z s
theorem mm_mono {p : Program} {l : Launch} {e : Env} {R : Room} {s : State} {m : MethodId} {args : Array Value} {below : List Frame} {meth : Method} {c : Code} {H : Heap} {locs : List Loc} {cells slots : Nat} {Q Q' : State → Prop} {g : JFrame} (h : ∀ t, Q t → Q' t) (w : W p l e R s m args below meth c H locs cells slots Q g) : W p l e R s m args below meth c H locs cells slots Q' g := fun T hT X => by
  obtain ⟨t, a, b⟩ := w T hT X
  exact ⟨t, a, h t b⟩
/-- what a return leaves -/
theorem mm_ret_end {P : mm_P} {D : va_G} {cl : List vw_C} {cT : Nat → Nat} {b z Ln : Nat} {xs : Nat → Int32} {xX : Nat → Prop} {s : State} {below : List Frame} {gl0 sl0 sl cells slots : Nat} {Q : mm_K} {g : List va_E} {H : Heap} {locs : List Loc} {args : Array Value} {v : Option Value} {t : State} (hR : mm_R D cl cT b z Ln xs s g H locs) (hcnt : mm_cnt P gl0 sl0 cells slots g sl) (hQ : Q (.inl v) g sl)
    (h : MQ below (fun _ _ o t => o = .returned (v.map (mm_v (mm_A b z))) ∧ t.heap = H) args s cells slots (fun q => z ≤ q) t) : mm_end P D cl cT b z Ln xs xX s below gl0 sl0 Q t := by
  obtain ⟨o, h1, h2, ⟨h3, h4⟩, lc, ⟨-, hW, hs⟩, hf⟩ := h
  obtain ⟨r1, r2, r3, r4, r5, r6⟩ := hR
  refine ⟨o, .inl v, g, sl, lc, cells, slots, h1, h2, hW, hs, ?_, hcnt, hQ, h3⟩
  rw [h4]
  exact ⟨r1, r2, ⟨r3.1, r3.2.1, hf⟩, r4, r5, r6⟩
theorem mm_kw_ok {P : mm_P} {ky : Nat → MethodName} {kb : Nat → ByteArray} {hs : Nat → List (Nat × Nat × Nat × Nat)} {TB : List Cond} {k : Nat} {args : Array Value} {s : State} (hts : ∀ w ∈ TB, w.before args s = true) (h : mm_kw P ky kb hs TB k) :
    ∃ mk meth c, s.methodNamed? (ky k) = some mk ∧ s.vm.method? mk = some meth ∧ meth.code = some c ∧ c.code = kb k ∧ c.maxLocals = mm_kl P k ∧ meth.sig.returnType = mm_kr P k ∧ meth.locks = false ∧ c.exceptionTable.toList.map (fun h => (h.startPc, h.endPc, h.handlerPc, h.catchType)) = hs k ∧ parseMethodDescriptor (ky k).desc = some meth.sig := by
  rcases h with ⟨h, h0⟩ | h
  · obtain ⟨mk, hn⟩ := Cond.code_named (hts _ h)
    obtain ⟨meth, c, h1, h2, h3, h4, h5, h6, h7, h8⟩ := Cond.code_spec hn (hts _ h)
    refine ⟨mk, meth, c, hn, h1, h2, h3, h4, h5, h6, ?_, h8⟩
    have : c.exceptionTable.size = 0 := by simpa [Array.isEmpty] using h7
    have : c.exceptionTable.toList = [] := List.eq_nil_of_length_eq_zero (by simpa using this)
    rw [this, h0]; rfl
  · obtain ⟨mk, meth, c, hn, h1, h2, h3, h4, h5, h6, h7, h8⟩ := Cond.codeWith_spec (hts _ h)
    exact ⟨mk, meth, c, hn, h1, h2, h3, h4, h6, h7, h5, h8⟩
end
section
section MmThrow
variable {p : Program} {l : Launch} {e : Env} {R : Room} {s : State} {m : MethodId} {args : Array Value} {below : List Frame} {meth : Method} {c : Code} {H : Heap} {locs : List Loc} {cells slots : Nat} {D : va_G} {cl : List vw_C} {cT : Nat → Nat} {b z Ln : Nat} {xs : Nat → Int32} {P : mm_P} {gl0 sl0 sl : Nat} {xX : Nat → Prop} {g : List va_E}
variable {TB : List Cond} {SB : List (String × Nat × String)} {tyl : List FieldType} {cn : Nat → String} {ky : Nat → MethodName} {kb : Nat → ByteArray} {hs : Nat → List (Nat × Nat × Nat × Nat)} {xc : Nat → Nat → Option Nat} {s0 : State} {a0 : Array Value} {k pc ci : Nat} {L : Array Slot} {st : List Value} {Q : mm_K} {ls : List (Nat × Value)}
theorem mm_statics {s : State} {D : va_G} {cl : List vw_C} {cT : Nat → Nat} {b z Ln : Nat} {xs : Nat → Int32} {g : List va_E} {H : Heap} {locs : List Loc} (r : mm_R D cl cT b z Ln xs s g H locs) (g0 : List va_E) (hs : va_P D cl (mm_W (mm_A b z) cT 0 g0) s.heap) (hz : s.heap.size = z + g0.length) : ∀ x ∈ locs, ∀ cell, s.heap[x.base]? = some cell → cell.vm.isStatics = false := by
  intro x hx cell hc
  have h1 := r.2.2.1.2.2 x hx
  have h2 := (Array.getElem?_eq_some_iff.mp hc).1
  obtain ⟨i, hi⟩ : ∃ i, x.base = z + i := ⟨x.base - z, (Nat.add_sub_cancel' (h1 : z ≤ x.base)).symm⟩
  have hlt : i < g0.length := by
    have h4 : z + i < z + g0.length := by rw [← hi, ← hz]; exact h2
    exact Nat.lt_of_add_lt_add_left h4
  have h3 := hs i _ (by rw [mm_W_get, List.getElem?_eq_getElem hlt]; rfl)
  have hA : mm_A b z (0 + i + 1) = x.base := by rw [hi]; simp [mm_A]
  rw [hA] at h3
  cases he : g0[i] with
  | inl q =>
    obtain ⟨t, a⟩ := q
    rw [he] at h3
    have h3 : s.heap[x.base]? = some (vp_cell (cT t) (mm_a (mm_A b z) a)) := h3
    rw [hc] at h3
    cases h3
    obtain ⟨n, f | f | f | f | f⟩ := a <;> rfl
  | inr q =>
    obtain ⟨cj, fs⟩ := q
    rw [he] at h3
    obtain ⟨rr, -, cell', q1, q2, q3, -⟩ := h3
    have q1 : s.heap[x.base]? = some cell' := q1
    rw [hc] at q1
    cases q1
    rw [q3]; rfl
set_option maxHeartbeats 1000000 in
theorem mm_throw_ok (ok : mm_ok3 P TB SB cl cn ky kb hs xc xX) (h0 : mm_s0 TB SB cl tyl D cT xX a0 s0) (htr : e.platform.stackTraces = false) (C : mm_C P cn kb hs s0 z k p s m meth c) (hR : mm_R D cl cT b z Ln xs s g H locs) (g0 : List va_E) (hg0 : va_P D cl (mm_W (mm_A b z) cT 0 g0) s.heap) (hz0 : s.heap.size = z + g0.length) (hl : lv_has L (mm_kl P k) (mm_L (mm_A b z) ls))
    (hx : mm_xt P k pc = some ci) (hroom : g.length + 1 ≤ mm_CM P ∧ sl + 6 ≤ mm_SM P ∧ mm_cats st ≤ 8) (hQ : Q (.inr (ci, g.length + 1)) (g ++ [.inr (ci, [])]) (sl + 6)) (hcnt : mm_cnt P gl0 sl0 cells slots g sl) (hCM : mm_CM P ≤ R.cells + gl0) (hSM : mm_SM P ≤ R.slots + sl0) (hfr : 8 ≤ R.frames) (hlo : 200 ≤ R.locals) :
    W p l e R s m args below meth c H locs cells slots (mm_end P D cl cT b z Ln xs xX s below gl0 sl0 Q) (F0 m pc L (mm_S (mm_A b z) st)) := by
  obtain ⟨hexec, hb, hml, hrt, hlocks, hown, hname, hhs, B⟩ := C
  obtain ⟨g1, g2, ⟨g3, g4, g5, g6⟩, g7, g8⟩ := h0
  have hts : ∀ w ∈ TB, w.before args s = true := fun w hw => B.word (g1 w hw).1 (g1 w hw).2
  obtain ⟨-, -, -, -, -, okX, -, -⟩ := ok
  obtain ⟨hxX, hnot, X, T, i, si, ic, tx, names, hc, d0, d3, d4, d6, d9, w1, w2, w3, w4, w5, w6, w7, w8⟩ := okX _ _ _ hx
  obtain ⟨c1, c2, c3, c4⟩ := hcnt
  have hKn := (va_K.moved B.1.alike g7).1 ci _ hc
  have hA : mm_A b z (g.length + 1) = H.size := by rw [hR.1]; rfl
  have hown8 : ∀ w ∈ Bundle.ownAtoms (cn (mm_kc P k)) ic X names, w.before args s = true := by
    intro w hw
    rcases w8 w hw with h | h | h
    · exact hts w h
    · rw [h]; exact B.isRefStatic g3 g4
    · rw [h]; exact B.isRefStatic g5 g6
  refine W.newcK hexec hb hown (hts _ w1) (hts _ w2) (hts _ w3) rfl d0 (by omega) (by omega) hKn.2.1 rfl fun H1 kC hkC e1 z1 o1 => ?_
  have hR1 : mm_R D cl cT b z Ln xs s (g ++ [.inr (ci, [])]) H1 locs := hR.push ⟨_, hc, _, e1, rfl, rfl, fun j hj => absurd hj (Nat.not_lt_zero j)⟩ z1 o1
  refine lv_dup hexec hb d3 rfl ?_
  obtain ⟨sa, hsa⟩ := B.string (g2 _ w4)
  refine va_ldcS hexec hb hown hsa d4 ?_
  intro T1 hT1 X1
  have hsz : H.size < H1.size := by omega
  obtain ⟨vm', ce, lc, k1, k2, k3, X2, st2⟩ := mm_made X1 hexec htr hown w5 w6 hown8 (mm_statics hR g0 hg0 hz0) (a := H.size) hKn.2.1 hkC (by rw [hT1]; exact e1) (by have := hR.2.2.1.1; exact this) (msg := .ref sa) rfl (g := F0 m (pc + 3 + 1 + 2) L (.ref sa :: .ref H.size :: .ref H.size :: mm_S (mm_A b z) st)) rfl (by rw [hml]; exact hl.1) rfl (by rw [hb]; exact d6) (by rw [w7]; omega)
    (by rw [w7]; show 2 * 0 + (1 + ((mm_S (mm_A b z) st).map fun v => v.category).sum) + _ ≤ _; rw [mm_cats_S]; omega)
  have hnocov : ∀ x ∈ c.exceptionTable.toList, covers x (pc + 9) = false := by
    intro x hx'
    have hm : (x.startPc, x.endPc, x.handlerPc, x.catchType) ∈ hs k := by rw [← hhs]; exact List.mem_map.mpr ⟨x, hx', rfl⟩
    have := hnot _ hm
    simp only [covers]
    by_cases q1 : x.startPc ≤ pc + 9 <;> by_cases q2 : pc + 9 < x.endPc <;> simp [q1, q2]
    exact this ⟨q1, q2⟩
  obtain ⟨hwalk, hrun, hended, hWU, hsame⟩ := X2.athrowLeaves hexec (g := F0 m (pc + 9) L (.ref H.size :: mm_S (mm_A b z) st)) rfl rfl rfl hnocov rfl (by rw [hb]; exact d9) hlocks
  refine ⟨_, st2 _ hwalk, .threw H.size, .inr (ci, g.length + 1), g ++ [.inr (ci, [])], sl + 6, locs ++ lc, cells + 1, slots + 6, hrun, hended, hWU, hsame, ?_, ⟨by rw [List.length_append]; show cells + 1 + gl0 = g.length + 1; omega, by omega, by rw [List.length_append]; show g.length + 1 ≤ _; omega, by omega⟩, hQ, by show Outcome.threw _ = .threw (mm_A b z (g.length + 1)); rw [hA], hxX, g.length, rfl, by simp⟩
  have hheap : (((T1.setVm vm').setCell H.size ce).setFrames (.throwing H.size :: below)).heap = H1.setIfInBounds H.size ce := by
    show ((T1.setVm vm').setCell H.size ce).heap = _
    simp [State.setCell, hT1]
  rw [hheap]
  have hq : (g ++ [Sum.inr (ci, [])] : List va_E)[g.length]? = some (.inr (ci, [])) := by simp
  obtain ⟨r1, r2, r3, r4, r5, r6⟩ := hR1
  have hD : va_D (fun q => z ≤ q) (mm_W (mm_A b z) cT 0 (g ++ [.inr (ci, [])])) := mm_R.D ⟨r1, r2, r3, r4, r5, r6⟩
  have hp : (mm_W (mm_A b z) cT 0 (g ++ [Sum.inr (ci, [])]))[g.length]? = some (H.size, .inr (ci, [])) := by
    rw [mm_at ⟨r1, r2, r3, r4, r5, r6⟩ hq, hA]; rfl
  have hoq : ∀ x : Nat, x ≠ H.size → (H1.setIfInBounds H.size ce)[x]? = H1[x]? := fun x hx' => Array.getElem?_setIfInBounds_ne (fun q => hx' q.symm)
  have hP2 := r2.set hD hp (e := .inr (ci, [])) (H1 := H1.setIfInBounds H.size ce) ⟨_, hc, ce, by rw [Array.getElem?_setIfInBounds_self_of_lt hsz], k1, k2, fun j hj => absurd hj (Nat.not_lt_zero j)⟩ hoq
  have hset : (mm_W (mm_A b z) cT 0 (g ++ [Sum.inr (ci, [])])).set g.length (H.size, .inr (ci, [])) = mm_W (mm_A b z) cT 0 (g ++ [.inr (ci, [])]) := by
    apply List.ext_getElem?
    intro j
    by_cases hj : g.length = j
    · subst hj
      rw [List.getElem?_set_self (by have := (List.getElem?_eq_some_iff.mp hp).1; exact this), hp]
    · rw [List.getElem?_set_ne hj]
  rw [hset] at hP2
  refine ⟨by rw [Array.size_setIfInBounds]; exact r1, hP2, ⟨by rw [Array.size_setIfInBounds]; exact r3.1, fun q hq1 hq2 => ?_, fun x hx' => ?_⟩, r4, r5, r6⟩
  · rw [hoq q (fun h => hq2 (by show z ≤ q; rw [h, hR.1]; omega))]
    exact r3.2.1 q hq1 hq2
  · rcases List.mem_append.mp hx' with q | q
    · exact r3.2.2 x q
    · show z ≤ x.base
      rw [k3 x q, hR.1]; omega
end MmThrow
end
section
section MmCalls
variable {p : Program} {l : Launch} {e : Env} {R : Room} {s : State} {m : MethodId} {args : Array Value} {below : List Frame} {meth : Method} {c : Code} {H : Heap} {locs : List Loc} {cells slots : Nat} {D : va_G} {cl : List vw_C} {cT : Nat → Nat} {b z Ln : Nat} {xs : Nat → Int32} {P : mm_P} {gl0 sl0 sl : Nat} {xX : Nat → Prop} {g : List va_E}
variable {TB : List Cond} {SB : List (String × Nat × String)} {tyl : List FieldType} {cn : Nat → String} {ky : Nat → MethodName} {kb : Nat → ByteArray} {hs : Nat → List (Nat × Nat × Nat × Nat)} {xc : Nat → Nat → Option Nat} {s0 : State} {a0 : Array Value} {k pc : Nat} {L : Array Slot} {Q : mm_K} {ls : List (Nat × Value)}
/-- what is known of calls: they are sound, in so much room -/
def mm_HC (P : mm_P) (l : Launch) (D : va_G) (cl : List vw_C) (cT : Nat → Nat) (b z Ln : Nat) (xs : Nat → Int32) (xX : Nat → Prop) (cn : Nat → String) (kb : Nat → ByteArray) (hs : Nat → List (Nat × Nat × Nat × Nat)) (s0 : State) (d : Nat) (call : mm_Call) : Prop :=
  ∀ k' as g sl Q', call k' as g sl Q' → ∀ {p : Program} {e : Env} {s : State} {m : MethodId} {args : Array Value} {below : List Frame} {meth : Method} {c : Code} {R : Room} {H : Heap} {L : Array Slot}, e.platform.stackTraces = false → mm_C P cn kb hs s0 z k' p s m meth c → s.heap = H → mm_R D cl cT b z Ln xs s g H [] → lv_has L (mm_kl P k') (mm_L (mm_A b z) (lv_args 0 as)) → g.length ≤ mm_CM P → sl ≤ mm_SM P → mm_CM P ≤ R.cells + g.length → mm_SM P ≤ R.slots + sl → 8 + d ≤ R.frames → 200 + 64 * d ≤ R.locals →
    W p l e R s m args below meth c H [] 0 0 (mm_end P D cl cT b z Ln xs xX s below g.length sl Q') (F0 m 0 L [])
set_option maxHeartbeats 1000000 in
/-- a call that stands: into the method, and on -/
theorem mm_go {d : Nat} {call : mm_Call} (HC : mm_HC P l D cl cT b z Ln xs xX cn kb hs s0 d call) (ok : mm_ok3 P TB SB cl cn ky kb hs xc xX) (h0 : mm_s0 TB SB cl tyl D cT xX a0 s0) (htr : e.platform.stackTraces = false) (C : mm_C P cn kb hs s0 z k p s m meth c) {T : State} (X : Stand p l e R s m args below meth c T locs cells slots) (hR : mm_R D cl cT b z Ln xs s g T.heap locs) (hl : lv_has L (mm_kl P k) (mm_L (mm_A b z) ls))
    (hcnt : mm_cnt P gl0 sl0 cells slots g sl) (hCM : mm_CM P ≤ R.cells + gl0) (hSM : mm_SM P ≤ R.slots + sl0) (hfr : 8 + (d + 1) ≤ R.frames) (hlo : 200 + 64 * (d + 1) ≤ R.locals)
    {k' : Nat} {as r : List Value} {ig : Instr} (hdg : decode c.code pc = .ok (ig, 3)) (hroom : mm_cats r + mm_kl P k' + 11 ≤ 64 ∧ mm_cats as ≤ mm_kl P k') (hkw : mm_kw P ky kb hs TB k') (hpf : plainFor (ky k') = true) (hcn : cn (mm_kc P k') = (ky k').cls) (hki : mm_ki P k' = true → (ky k').name = "<init>")
    {mk : MethodId} (hmk : s.methodNamed? (ky k') = some mk) {nx : Nat → List Value → List va_E → Nat → Prop} (hcall : call k' as g sl (mm_back P k nx Q pc r))
    (kk : ∀ pc' st' g' sl' H' locs' cells' slots', nx pc' st' g' sl' → mm_R D cl cT b z Ln xs s g' H' locs' → mm_cnt P gl0 sl0 cells' slots' g' sl' → W p l e R s m args below meth c H' locs' cells' slots' (mm_end P D cl cT b z Ln xs xX s below gl0 sl0 Q) (F0 m pc' L (mm_S (mm_A b z) st'))) :
    ∃ t, (∀ acts, Steps p.tables e below (doInvoke e (T.setTop (F0 m pc L (mm_S (mm_A b z) r))) acts mk (mm_S (mm_A b z) as).toArray).1 t) ∧ mm_end P D cl cT b z Ln xs xX s below gl0 sl0 Q t := by
  obtain ⟨hexec, hb, hml, hrt, hlocks, hown, hname, hhs, B⟩ := C
  obtain ⟨g1, g2, -, g7, g8⟩ := h0
  have hts : ∀ w ∈ TB, w.before args s = true := fun w hw => B.word (g1 w hw).1 (g1 w hw).2
  obtain ⟨mk', methk, ck, hn, hm, hcode, hbytes, hmaxl, hret, hlk, hhsk, hsig⟩ := mm_kw_ok hts hkw
  cases Option.some.inj (hmk.symm.trans hn)
  have halT : s.vm.Alike T.vm := X.warmed.alike
  have hmkT : T.vm.method? mk = some methk := by rw [halT.method?]; exact hm
  have hnT : T.methodNamed? (ky k') = some mk := X.named hn
  have hpk : T.plainMethod mk := State.plainMethod.of_named hpf hnT hmkT
  obtain ⟨c1, c2, c3, c4⟩ := id hcnt
  obtain ⟨-, -, -, -, -, -, okH, okc⟩ := ok
  obtain ⟨oc, g', sl', T', lc, ce, ss, X', hR', hcnt', hQ', hfin⟩ := mm_enter (P := P) (gl0 := gl0) (sl0 := sl0) (xX := xX) X (g := F0 m pc L (mm_S (mm_A b z) r)) rfl (by rw [hml]; exact hl.1) hdg rfl as hmkT hcode hlk hpk (R' := { frames := R.frames - 1, cells := R.cells - cells, slots := R.slots - slots, locals := R.locals - 64 }) (by show R.frames - 1 + 1 ≤ R.frames; omega)
    (by show ((mm_S (mm_A b z) r).map fun v => v.category).sum + (ck.maxLocals + 11) + (R.locals - 64) ≤ R.locals; rw [mm_cats_S, hmaxl]; omega) (by show cells + (R.cells - cells) ≤ R.cells; omega) (by show slots + (R.slots - slots) ≤ R.slots; omega) hR (by rw [hmaxl]; exact hroom.2) (Q' := mm_back P k nx Q pc r) hcnt (by
      intro L' hl' hRs
      have hheap : (T.calling (F0 m pc L (mm_S (mm_A b z) r)) mk (mm_S (mm_A b z) as).toArray).heap = T.heap := by
        simp [State.calling, State.pushFrame, State.setFrames, State.setTop, State.modifyTopJava]
      have hvm : (T.calling (F0 m pc L (mm_S (mm_A b z) r)) mk (mm_S (mm_A b z) as).toArray).vm = T.vm := by
        simp [State.calling, State.pushFrame, State.setFrames, State.setTop, State.modifyTopJava]
      refine HC _ _ _ _ _ hcall htr ⟨hexec, hbytes, hmaxl, hret, hlk, ?_, fun q => ?_, hhsk, ?_⟩ hheap hRs (by rw [← hmaxl]; exact hl') c3 c4 (by show _ ≤ R.cells - cells + g.length; omega) (by show _ ≤ R.slots - slots + sl; omega) (by show 8 + d ≤ R.frames - 1; omega) (by show 200 + 64 * d ≤ R.locals - 64; omega)
      · rw [hcn, hvm, halT.findClass]; exact findClass_of_methodNamed hn
      · rw [(name_of_methodNamed hn hm).1]; exact hki q
      · refine ⟨by rw [hvm]; exact State.WarmedH.trans B.1 X.warmed, B.2.1, fun q hq => ?_⟩
        rw [hheap, hR.2.2.1.2.1 q (by have := hR.2.2.2.2.2; omega) (by omega)]
        exact B.2.2 q hq)
  cases oc with
  | inl v =>
    have hnx : nx (pc + 3) (v.toList ++ r) g' sl' := hQ'
    obtain ⟨t, hst, hend⟩ := kk _ _ _ _ _ _ _ _ hnx hR' hcnt' T' rfl X'
    refine ⟨t, fun acts => (hfin acts).trans ?_, hend⟩
    have : mm_S (mm_A b z) (v.toList ++ r) = (v.map (mm_v (mm_A b z))).toList ++ mm_S (mm_A b z) r := by cases v <;> simp [mm_S]
    rw [this] at hst
    exact hst
  | inr x =>
    obtain ⟨hx, ⟨q, hq1, hq2⟩, hst⟩ := hfin
    have hQ'' : (match mm_kh P k pc x.1 with
      | some h => h ≠ 999999 ∧ nx h [.ref x.2] g' sl'
      | none => Q (.inr x) g' sl') := hQ'
    cases hkh : mm_kh P k pc x.1 with
    | none =>
      rw [hkh] at hQ''
      have hout : ∀ y ∈ c.exceptionTable.toList, covers y pc = false := by
        intro y hy
        have hmem : (y.startPc, y.endPc, y.handlerPc, y.catchType) ∈ hs k := by rw [← hhs]; exact List.mem_map.mpr ⟨y, hy, rfl⟩
        have := (okH k pc x.1 hx).2 hkh _ hmem
        simp only [covers]
        by_cases q1 : y.startPc ≤ pc <;> by_cases q2 : pc < y.endPc <;> simp [q1, q2]
        exact this ⟨q1, q2⟩
      obtain ⟨hwalk, hrun, hended, hWU, hsame⟩ := X'.leaveThrown (mm_A b z x.2) (g := F0 m pc L (mm_S (mm_A b z) r)) rfl rfl rfl hout hlocks
      exact ⟨_, fun acts => (hst acts).trans hwalk, .threw (mm_A b z x.2), .inr x, g', sl', locs ++ lc, cells + ce, slots + ss, hrun, hended, hWU, hsame, hR', hcnt', hQ'', rfl, hx, q, hq1, hq2⟩
    | some h =>
      rw [hkh] at hQ''
      have hhit := (okH k pc x.1 hx).1 h hkh hQ''.1
      have hK := va_K.moved B.1.alike g7
      obtain ⟨rr, hrr, cell, e1, e2, e3, -⟩ := hR'.2.1 q _ (mm_at hR' hq2)
      rw [← hq1] at e1
      have hpl : e.platform.magicAccessors = ({} : Platform).magicAccessors := by rw [X.admits.platform]
      obtain ⟨vm', X3, st3⟩ := mm_caught X' (a := mm_A b z x.2) (g := F0 m pc L (mm_S (mm_A b z) r)) rfl (cc := xc k) (dC := D.1) (ci := x.1) (pcH := h) e1 e2 (fun k' hk' => by rw [e3] at hk'; cases hk') (by obtain ⟨-, -, kk', hkk, -⟩ := hK.1 x.1 _ hrr; exact ⟨kk', hkk⟩)
        (by
          intro ct cj hct
          obtain ⟨n1, n2, Xn, Tn, n3, n4⟩ := okc _ _ _ hct
          obtain ⟨-, hfc, kk', hkk, -⟩ := hK.1 cj _ n3
          obtain ⟨c', hc', hlk'⟩ := Cond.classLink_spec hown (hts _ n4) e.platform hpl
          cases Option.some.inj (hc'.symm.trans hfc)
          refine ⟨n1, hlk', ⟨kk', hkk⟩, ?_⟩
          rw [B.1.alike.assignable]
          exact g8 _ _ hx n2)
        (by rw [hhs]; exact hhit)
      obtain ⟨t, hst4, hend⟩ := kk _ _ _ _ _ _ _ _ hQ''.2 hR' hcnt' (T'.setVm vm') rfl X3
      exact ⟨t, fun acts => (hst acts).trans (st3 _ hst4), hend⟩
end MmCalls
end
section
section MmSound
variable {l : Launch} {D : va_G} {cl : List vw_C} {cT : Nat → Nat} {b z Ln : Nat} {xs : Nat → Int32} {P : mm_P} {xX : Nat → Prop}
variable {TB : List Cond} {SB : List (String × Nat × String)} {tyl : List FieldType} {cn : Nat → String} {ky : Nat → MethodName} {kb : Nat → ByteArray} {hs : Nat → List (Nat × Nat × Nat × Nat)} {xc : Nat → Nat → Option Nat} {s0 : State} {a0 : Array Value} {k : Nat}
set_option maxHeartbeats 2000000 in
theorem mm_sound_n {d : Nat} {call : mm_Call} (HC : mm_HC P l D cl cT b z Ln xs xX cn kb hs s0 d call) (ok2 : mm_ok2 P TB cl tyl cn) (ok : mm_ok3 P TB SB cl cn ky kb hs xc xX) (h0 : mm_s0 TB SB cl tyl D cT xX a0 s0) {p : Program} {e : Env} {s : State} {m : MethodId} {args : Array Value} {below : List Frame} {meth : Method} {c : Code} {R : Room} {gl0 sl0 : Nat} (htr : e.platform.stackTraces = false) (C : mm_C P cn kb hs s0 z k p s m meth c)
    (g0 : List va_E) (hg0 : va_P D cl (mm_W (mm_A b z) cT 0 g0) s.heap) (hz0 : s.heap.size = z + g0.length) (hgl : g0.length = gl0) (hCM : mm_CM P ≤ R.cells + gl0) (hSM : mm_SM P ≤ R.slots + sl0) (hfr : 8 + (d + 1) ≤ R.frames) (hlo : 200 + 64 * (d + 1) ≤ R.locals) {Q : mm_K} :
    ∀ (n pc : Nat) (ls : List (Nat × Value)) (st : List Value) (g : List va_E) (sl : Nat), mm_w P Ln xs call k n pc ls st g sl Q → ∀ (H : Heap) (L : Array Slot) (locs : List Loc) (cells slots : Nat), mm_R D cl cT b z Ln xs s g H locs → lv_has L (mm_kl P k) (mm_L (mm_A b z) ls) → mm_cnt P gl0 sl0 cells slots g sl →
      W p l e R s m args below meth c H locs cells slots (mm_end P D cl cT b z Ln xs xX s below gl0 sl0 Q) (F0 m pc L (mm_S (mm_A b z) st))
  | 0, _, _, _, _, _, h => by exact absurd h (by simp [mm_w])
  | n + 1, pc, ls, st, g, sl, h => by
    intro H L locs cells slots hR hl hcnt
    have ih := mm_sound_n HC ok2 ok h0 htr C g0 hg0 hz0 hgl hCM hSM hfr hlo (args := args) (below := below) (Q := Q) n
    obtain ⟨hexec, hb, hml, hrt, hlocks, hown, hname, hhs, B⟩ := id C
    have hts : ∀ w ∈ TB, w.before args s = true := fun w hw => B.word (h0.1 w hw).1 (h0.1 w hw).2
    have hK := va_K.moved B.1.alike h0.2.2.2.1
    have kk : ∀ pc' st' g' sl' H' locs' cells' slots', mm_w P Ln xs call k n pc' ls st' g' sl' Q → mm_R D cl cT b z Ln xs s g' H' locs' → mm_cnt P gl0 sl0 cells' slots' g' sl' → W p l e R s m args below meth c H' locs' cells' slots' (mm_end P D cl cT b z Ln xs xX s below gl0 sl0 Q) (F0 m pc' L (mm_S (mm_A b z) st')) := fun pc' st' g' sl' H' locs' cells' slots' hw hr hc => ih pc' ls st' g' sl' hw _ _ _ _ _ hr hl hc
    unfold mm_w at h
    split at h
    · rename_i ci hx
      exact mm_throw_ok ok h0 htr C hR g0 hg0 hz0 hl hx h.1 h.2 hcnt hCM hSM (by omega) (by omega)
    split at h
    · rename_i lo dt ts hsw
      obtain ⟨dflt, offs, len, d1, d2, d3⟩ := ok.2.1 _ _ _ _ _ hsw
      split at h
      · rename_i x r
        by_cases hout : x.toInt < lo ∨ lo + (ts.length : Int) - 1 < x.toInt
        · exact lv_tableOut hexec hb d1 hout d2 (kk _ _ _ _ _ _ _ _ (h.1 hout) hR hcnt)
        · have h1 : ¬ x.toInt < lo := fun q => hout (Or.inl q)
          have h2 : ¬ lo + (ts.length : Int) - 1 < x.toInt := fun q => hout (Or.inr q)
          have hi : (x.toInt - lo).toNat < ts.length := by omega
          obtain ⟨off, o1, o2⟩ := d3 _ _ (List.getElem?_eq_getElem hi)
          exact lv_tableIn hexec hb d1 h1 h2 o1 o2 (kk _ _ _ _ _ _ _ _ (h.2 _ _ (List.getElem?_eq_getElem hi) (by omega)) hR hcnt)
      · exact h.elim
    split at h
    · exact h.elim
    · rename_i ins hlook
      have hdg := ok.1 _ _ (mm_look_mem hlook)
      dsimp only at hdg
      split at h
      · rename_i X hs1
        exact mm_s1_ok hexec hb hs1 h hdg hl (fun pc' ls' st' L' hw hl' => ih pc' ls' st' g sl hw _ _ _ _ _ hR hl' hcnt)
      rename_i hn1
      clear hn1
      split at h
      · rename_i X hs2
        exact mm_s2_ok ok2 hexec hb hts hown hname hK hs2 h hdg hR hcnt hCM hSM kk
      · rename_i hn2
        clear hn2
        have hfree : ∀ q ∈ locs, (fun q => z ≤ q) q.base := hR.2.2.1.2.2
        unfold mm_s3 at h
        split at h
        · split at h
          · rename_i x
            split at h
            · rename_i hk
              exact mm_mono (Q := MQ below (fun _ _ o t => o = .returned ((some (.int x) : Option Value).map (mm_v (mm_A b z))) ∧ t.heap = H) args s cells slots (fun q => z ≤ q)) (fun t => mm_ret_end hR hcnt h) (W.iret (v := x) hexec hb (hrt.trans hk) (fun t ht _ => ⟨rfl, ht⟩) hfree hdg hlocks)
            · rename_i ty _ hk
              exact mm_mono (Q := MQ below (fun _ _ o t => o = .returned ((some (.int x) : Option Value).map (mm_v (mm_A b z))) ∧ t.heap = H) args s cells slots (fun q => z ≤ q)) (fun t => mm_ret_end hR hcnt h.2) (W.zret (v := x) hexec hb (hrt.trans hk) h.1 (fun t ht _ => ⟨rfl, ht⟩) hfree hdg hlocks)
            · exact h.elim
          · exact h.elim
        · split at h
          · rename_i x
            split at h
            · rename_i hk
              exact mm_mono (Q := MQ below (fun _ _ o t => o = .returned ((some (.long x) : Option Value).map (mm_v (mm_A b z))) ∧ t.heap = H) args s cells slots (fun q => z ≤ q)) (fun t => mm_ret_end hR hcnt h) (W.lret (v := x) hexec hb (hrt.trans hk) (fun t ht _ => ⟨rfl, ht⟩) hfree hdg hlocks)
            · exact h.elim
          · exact h.elim
        · split at h
          · rename_i v
            split at h
            · rename_i hv
              have hv' : mm_v (mm_A b z) v = .null ∨ ∃ a, mm_v (mm_A b z) v = .ref a := by
                unfold mm_kind at hv
                split at hv <;> first | (cases hv; done) | (rename_i h1; cases h1; done) | exact Or.inr ⟨_, rfl⟩ | exact Or.inl rfl
              split at h
              · rename_i nn hk
                exact mm_mono (Q := MQ below (fun _ _ o t => o = .returned ((some v : Option Value).map (mm_v (mm_A b z))) ∧ t.heap = H) args s cells slots (fun q => z ≤ q)) (fun t => mm_ret_end hR hcnt h) (W.aret (v := mm_v (mm_A b z) v) hexec hb (hrt.trans hk) (Or.inl ⟨_, rfl⟩) hv' (fun t ht _ => ⟨rfl, ht⟩) hfree hdg hlocks)
              · rename_i nn hk
                exact mm_mono (Q := MQ below (fun _ _ o t => o = .returned ((some v : Option Value).map (mm_v (mm_A b z))) ∧ t.heap = H) args s cells slots (fun q => z ≤ q)) (fun t => mm_ret_end hR hcnt h) (W.aret (v := mm_v (mm_A b z) v) hexec hb (hrt.trans hk) (Or.inr ⟨_, rfl⟩) hv' (fun t ht _ => ⟨rfl, ht⟩) hfree hdg hlocks)
              · exact h.elim
            · exact h.elim
          · exact h.elim
        · split at h
          · split at h
            · rename_i hk
              exact mm_mono (Q := MQ below (fun _ _ o t => o = .returned ((none : Option Value).map (mm_v (mm_A b z))) ∧ t.heap = H) args s cells slots (fun q => z ≤ q)) (fun t => mm_ret_end (v := none) hR hcnt h) (W.vret hexec hb (hrt.trans hk) (fun t ht _ => ⟨rfl, ht⟩) hfree hdg hlocks)
            · exact h.elim
          · exact h.elim
        · split at h
          · rename_i i k' na hml'
            obtain ⟨o1, o2, o3, o4, o5, o6, o7, -, o8, -, -⟩ := ok.2.2.1 _ _ _ _ _ hml' (by decide) (by decide)
            have o2 := o2.resolve_left (by decide)
            obtain ⟨o9, o10⟩ := o8 (Or.inl rfl)
            split at h
            · rename_i as r htk
              split at h
              · rename_i hd
                obtain ⟨bs, hbs, hlen, hst⟩ := mm_take_ok _ _ _ _ _ htk
                rw [List.append_nil] at hbs
                subst hbs
                subst hst
                intro T hT X
                subst hT
                obtain ⟨mk, methk, ck, hn, hm, -, -, -, -, -, -, hsig⟩ := mm_kw_ok hts o1
                obtain ⟨kP, hkP, -⟩ := className_of_methodNamed hn
                have hpar : (mm_S (mm_A b z) as).length = methk.sig.parameters.length := by
                  rw [hsig] at o10
                  have := Option.some.inj o10
                  rw [mm_S, List.length_map, hlen]
                  exact this.symm
                obtain ⟨vm1, X1, st1⟩ := X.invokestatic hexec hown (hts _ o2) hn hm (Cond.static_spec hn hm (hts _ o9)) hkP (Cond.initialized_spec (findClass_of_methodNamed hn) hkP (hts _ o3)) o4 (g := F0 m pc L (mm_S (mm_A b z) (as.reverse ++ r))) rfl (argsL := mm_S (mm_A b z) as) (rest := mm_S (mm_A b z) r) hpar (by simp [mm_S]) (by rw [hb]; exact hdg)
                obtain ⟨t, ht, hend⟩ := mm_go HC ok h0 htr C X1 hR hl hcnt hCM hSM hfr hlo (by rw [hb]; exact hdg) (of_decide_eq_true hd) o1 o5 o6 o7 hn h kk
                exact ⟨t, st1 _ ht, hend⟩
              · exact h.elim
            · exact h.elim
          · rename_i i k' na hml'
            obtain ⟨o1, -, o3, o4, o5, o6, o7, on, o8, -, -⟩ := ok.2.2.1 _ _ _ _ _ hml' (by decide) (by decide)
            obtain ⟨host, o2⟩ := on rfl
            obtain ⟨o9, o10⟩ := o8 (Or.inr rfl)
            split at h
            · rename_i as r htk
              split at h
              · rename_i hd
                obtain ⟨bs, hbs, hlen, hst⟩ := mm_take_ok _ _ _ _ _ htk
                rw [List.append_nil] at hbs
                subst hbs
                subst hst
                intro T hT X
                subst hT
                obtain ⟨mk, methk, ck, hn, hm, -, -, -, -, -, -, hsig⟩ := mm_kw_ok hts o1
                obtain ⟨kP, hkP, -⟩ := className_of_methodNamed hn
                have hpar : (mm_S (mm_A b z) as).length = methk.sig.parameters.length := by
                  rw [hsig] at o10
                  have := Option.some.inj o10
                  rw [mm_S, List.length_map, hlen]
                  exact this.symm
                obtain ⟨vm1, X1, st1⟩ := X.invokestaticNest hexec hown (hts _ o2) hn hm (Cond.static_spec hn hm (hts _ o9)) hkP (Cond.initialized_spec (findClass_of_methodNamed hn) hkP (hts _ o3)) o4 (g := F0 m pc L (mm_S (mm_A b z) (as.reverse ++ r))) rfl (argsL := mm_S (mm_A b z) as) (rest := mm_S (mm_A b z) r) hpar (by simp [mm_S]) (by rw [hb]; exact hdg)
                obtain ⟨t, ht, hend⟩ := mm_go HC ok h0 htr C X1 hR hl hcnt hCM hSM hfr hlo (by rw [hb]; exact hdg) (of_decide_eq_true hd) o1 o5 o6 o7 hn h kk
                exact ⟨t, st1 _ ht, hend⟩
              · exact h.elim
            · exact h.elim
          · rename_i i k' na hml'
            obtain ⟨o1, o2, o3, o4⟩ := ok.2.2.2.2.1 _ _ _ _ hml'
            split at h
            · rename_i n' dp q2 sp q1 r
              split at h
              · rename_i n1 f1 hq1
                split at h
                · rename_i n2 f2 hq2
                  split at h
                  · rename_i hd
                    have hd := of_decide_eq_true hd
                    obtain ⟨⟨x1, x2, x3, x4, x5⟩, x6⟩ := h
                    have hty := mm_ty hK (ok2.2.2.2.2.1 .long _ _ rfl).1
                    have hnat : nativeFrameWords "java/lang/System" "arraycopy" 5 ≤ 100 := by decide +kernel
                    have hloc : ((mm_S (mm_A b z) r).map fun v => v.category).sum + (nativeFrameWords "java/lang/System" "arraycopy" 5 + 11) ≤ R.locals := by
                      rw [mm_cats_S]; omega
                    have hfr1 : 1 ≤ R.frames := by omega
                    refine va_copyl (A := fun q => z ≤ q) (H0 := H) hexec hb (by rw [hml]; exact hl.1.symm) hown (hts _ o1) (hts _ o2) (hts _ o3) (hts _ o4) hK hR.2.1 hR.D ⟨Nat.le_refl _, fun _ _ _ => rfl, hR.2.2.1.2.2⟩ q1 q2 1 1 (mm_at hR hq1) (mm_at hR hq2) hty hty rfl x1 x2 x3 x4 x5 (fun _ _ => rfl) hfr1 hloc hdg fun H1 locs1 hP1 hD1 hS1 => ?_
                    intro T hT X
                    have hup := X.heapSize
                    rw [hT] at hup
                    obtain ⟨c1, c2, c3, c4⟩ := hcnt
                    have hsz : H1.size = H.size := by have := hS1.1; have := hR.1; omega
                    have hS2 : va_S (fun q => z ≤ q) s.heap H1 locs1 := ⟨Nat.le_trans hR.2.2.1.1 hS1.1, fun q hq hn => by rw [hS1.2.1 q (by have := hR.2.2.1.1; omega) hn]; exact hR.2.2.1.2.1 q hq hn, hS1.2.2⟩
                    exact kk _ _ _ _ _ _ _ _ x6 (hR.set (e' := .inl (1, n2, .inr (.inl (va_cpy f1 f2 sp.toNatClampNeg dp.toNatClampNeg n'.toNatClampNeg)))) hP1 hS2 hsz) ⟨by rw [List.length_set]; exact c1, c2, by rw [List.length_set]; exact c3, c4⟩ T hT X
                  · exact h.elim
                · exact h.elim
              · exact h.elim
            · exact h.elim
          · exact h.elim
        · split at h
          · rename_i i k' na hml'
            obtain ⟨o1, o2, o3, o4, o5, o6, o7, -, -, o8, -⟩ := ok.2.2.1 _ _ _ _ _ hml' (by decide) (by decide)
            have o2 := o2.resolve_left (by decide)
            obtain ⟨o9, o10, o11, Tc, Nc, o12⟩ := o8 rfl
            split at h
            · rename_i as r htk
              split at h
              · rename_i hd
                obtain ⟨hd1, hd2⟩ := Bool.and_eq_true _ _ |>.mp hd
                obtain ⟨bs, hbs, hlen, hst⟩ := mm_take_ok _ _ _ _ _ htk
                rw [List.append_nil] at hbs
                subst hbs
                subst hst
                intro T hT X
                subst hT
                obtain ⟨mk, methk, ck, hn, hm, -, -, -, -, -, -, hsig⟩ := mm_kw_ok hts o1
                unfold mm_recv at hd2
                split at hd2
                · rename_i q as'
                  split at hd2
                  · rename_i ci fs hq
                    have hci := of_decide_eq_true hd2
                    subst hci
                    obtain ⟨rr, hrr, cell, e1, e2, e3, -⟩ := hR.2.1 q _ (mm_at hR hq)
                    obtain ⟨mk', methk', hn', hm', hst', hab'⟩ := Cond.instanceMethod_spec (hts _ o9)
                    cases Option.some.inj (hn.symm.trans hn')
                    cases Option.some.inj (hm.symm.trans hm')
                    obtain ⟨c2, r2, m2, q1, q2, q3, q4, kP, hkP, hkPi⟩ := Cond.selects_spec (hts _ o10)
                    have hcls : cell.cls = c2 := by
                      have := (hK.1 _ _ o12).2.1
                      rw [e2]
                      exact Option.some.inj (this.symm.trans q1)
                    cases Option.some.inj ((State.methodFound?_of_named hn o4).symm.trans q2)
                    cases Option.some.inj (hn.symm.trans q3)
                    have hpar : (mm_S (mm_A b z) as').length = methk.sig.parameters.length := by
                      rw [hsig] at o11
                      have := Option.some.inj o11
                      dsimp only at this
                      rw [mm_S, List.length_map]
                      simp at hlen
                      omega
                    obtain ⟨vm1, X1, st1⟩ := X.invokevirtual hexec hown (hts _ o2) hn hm hst' hkP hkPi o4 (a := mm_A b z (q + 1)) (cell := cell) e1 (fun x hx' => by rw [e3] at hx'; cases hx') (by rw [Launch.admits_selectMethod X.admits, hcls]; exact q4) hm hab' hkP hkPi (g := F0 m pc L (mm_S (mm_A b z) ((Value.ref (q + 1) :: as').reverse ++ r))) rfl (argsL := mm_S (mm_A b z) as') (rest := mm_S (mm_A b z) r) hpar (by simp [mm_S, mm_v]) (by rw [hb]; exact hdg)
                    obtain ⟨t, ht, hend⟩ := mm_go HC ok h0 htr C X1 hR hl hcnt hCM hSM hfr hlo (by rw [hb]; exact hdg) (of_decide_eq_true hd1) o1 o5 o6 o7 hn h kk
                    exact ⟨t, st1 _ ht, hend⟩
                  · cases hd2
                · cases hd2
              · exact h.elim
            · exact h.elim
          · exact h.elim
        · split at h
          · rename_i i k' na hml'
            obtain ⟨o1, o2, o3, o4, o5, o6, o7, -, -, -, o8⟩ := ok.2.2.1 _ _ _ _ _ hml' (by decide) (by decide)
            have o2 := o2.resolve_left (by decide)
            obtain ⟨o9, o10, o11, o12, o13⟩ := o8 rfl
            split at h
            · rename_i as r htk
              split at h
              · rename_i hd
                obtain ⟨hd1, hd2⟩ := Bool.and_eq_true _ _ |>.mp hd
                obtain ⟨bs, hbs, hlen, hst⟩ := mm_take_ok _ _ _ _ _ htk
                rw [List.append_nil] at hbs
                subst hbs
                subst hst
                intro T hT X
                subst hT
                unfold mm_isref at hd2
                split at hd2
                · rename_i q as'
                  have hcode := o12
                  have hpar : ∀ sig, parseMethodDescriptor (ky k').desc = some sig → (mm_S (mm_A b z) as').length = sig.parameters.length := by
                    intro sig hsig
                    rw [hsig] at o13
                    have := Option.some.inj o13
                    dsimp only at this
                    rw [mm_S, List.length_map]
                    simp at hlen
                    omega
                  have hpl : e.platform.magicAccessors = ({} : Platform).magicAccessors := by rw [X.admits.platform]
                  obtain ⟨mk, methM, cM, kP, vm1, hn, hm, -, -, -, -, -, -, hW1, st1⟩ := Steps.initColdArgs (e := e) X.here hexec X.warmed hpl hown o10 o4 (hts _ o2) (hts _ o9) (hts _ hcode) (f := F0 m pc L (mm_S (mm_A b z) ((Value.ref q :: as').reverse ++ r))) rfl (a := mm_A b z q) (argsL := mm_S (mm_A b z) as') (rest := mm_S (mm_A b z) r) hpar (by simp [mm_S, mm_v]) (by rw [hb]; exact hdg)
                  have X1 := X.noted hW1
                  obtain ⟨t, ht, hend⟩ := mm_go HC ok h0 htr C X1 hR hl hcnt hCM hSM hfr hlo (by rw [hb]; exact hdg) (of_decide_eq_true hd1) o1 o5 o6 o7 hn h kk
                  exact ⟨t, st1 _ ht, hend⟩
                · cases hd2
              · exact h.elim
            · exact h.elim
          · rename_i i k' na hml'
            obtain ⟨o1, o2, o3⟩ := ok.2.2.2.1 _ _ _ _ hml'
            split at h
            · rename_i q r
              split at h
              · rename_i hd
                have hd := of_decide_eq_true hd
                exact W.objInit hexec hb hown (hts _ o1) (hts _ o2) (hts _ o3) rfl (by rw [hml]; exact hl.1) rfl hdg (by omega) (by show 2 * 0 + ((mm_S (mm_A b z) r).map fun v => v.category).sum + 12 ≤ R.locals; rw [mm_cats_S]; omega) (kk _ _ _ _ _ _ _ _ h hR hcnt)
              · exact h.elim
            · exact h.elim
          · exact h.elim
        · exact h.elim
theorem mm_sound (ok2 : mm_ok2 P TB cl tyl cn) (ok : mm_ok3 P TB SB cl cn ky kb hs xc xX) (h0 : mm_s0 TB SB cl tyl D cT xX a0 s0) : ∀ d, mm_HC P l D cl cT b z Ln xs xX cn kb hs s0 d (mm_call P Ln xs d)
  | 0 => fun _ _ _ _ _ h => False.elim h
  | d + 1 => by
    intro k' as g sl Q' h p e s m args below meth c R H L htr C hH hR hl hg hs' hCM hSM hfr hlo
    obtain ⟨n, hn⟩ := h
    have hP : va_P D cl (mm_W (mm_A b z) cT 0 g) s.heap := by rw [hH]; exact hR.2.1
    have hz : s.heap.size = z + g.length := by rw [hH]; exact hR.1
    exact mm_sound_n (mm_sound ok2 ok h0 d) ok2 ok h0 htr C g hP hz rfl hCM hSM (by omega) (by omega) n 0 _ _ _ _ hn _ _ _ _ _ hR hl ⟨Nat.zero_add _, Nat.zero_add _, hg, hs'⟩
end MmSound
/-- lookups, and the handlers of a method, as functions -/
def mm_fd {α : Type} : List (Nat × α) → Nat → Option α
  | [], _ => none
  | q :: r, i => if q.1 = i then some q.2 else mm_fd r i
theorem mm_fd_mem {α : Type} {i : Nat} {v : α} : ∀ {l : List (Nat × α)}, mm_fd l i = some v → (i, v) ∈ l
  | [], h => by simp [mm_fd] at h
  | q :: r, h => by
    unfold mm_fd at h
    split at h
    · rename_i hq
      cases h
      subst hq
      exact List.mem_cons_self
    · exact List.mem_cons_of_mem _ (mm_fd_mem h)
def mm_khf (hs : Nat → List (Nat × Nat × Nat × Nat)) (xc : Nat → Nat → Option Nat) (k pc ci : Nat) : Option Nat :=
  if (hs k).any (fun x => decide (x.1 ≤ pc ∧ pc < x.2.1)) = true then (match mm_hit (xc k) pc ci (hs k) with | some h => some h | none => some 999999) else none
theorem mm_khf_ok (hs : Nat → List (Nat × Nat × Nat × Nat)) (xc : Nat → Nat → Option Nat) (k pc ci : Nat) : (∀ h, mm_khf hs xc k pc ci = some h → h ≠ 999999 → mm_hit (xc k) pc ci (hs k) = some h) ∧ (mm_khf hs xc k pc ci = none → ∀ x ∈ hs k, ¬ (x.1 ≤ pc ∧ pc < x.2.1)) := by
  unfold mm_khf
  constructor
  · intro h hh hn
    split at hh
    · split at hh
      · rename_i h' hq; cases hh; exact hq
      · cases hh; exact absurd rfl hn
    · cases hh
  · intro hh x hx hc
    split at hh
    · split at hh <;> cases hh
    · rename_i hany
      exact hany (List.any_eq_true.mpr ⟨x, hx, decide_eq_true hc⟩)
end

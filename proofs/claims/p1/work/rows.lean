section
/-! A SMALL MACHINE whose runs are Props that Lean computes: a state is a list of locals, a stack, a list of cells by their POSITIONS (0: the script; the others in the order of their making); mm_ words are mine. -/
/-- a position's address: the script's cell b, or the cell that was made as the k-th since the heap had z cells -/
def mm_A (b z : Nat) : Nat → Nat
  | 0 => b
  | k + 1 => z + k
def mm_v (A : Nat → Nat) : Value → Value
  | .ref p => .ref (A p)
  | v => v
def mm_L (A : Nat → Nat) (ls : List (Nat × Value)) : List (Nat × Value) := ls.map (fun q => (q.1, mm_v A q.2))
def mm_S (A : Nat → Nat) (st : List Value) : List Value := st.map (mm_v A)
theorem mm_cat (A : Nat → Nat) (v : Value) : (mm_v A v).category = v.category := by cases v <;> rfl
def mm_get : List (Nat × Value) → Nat → Option Value
  | [], _ => none
  | q :: r, i => if q.1 = i then some q.2 else mm_get r i
theorem mm_get_mem {i : Nat} {v : Value} : ∀ {ls : List (Nat × Value)}, mm_get ls i = some v → (i, v) ∈ ls
  | [], h => by simp [mm_get] at h
  | q :: r, h => by
    unfold mm_get at h
    split at h
    · rename_i hq
      cases h
      subst hq
      exact List.mem_cons_self
    · exact List.mem_cons_of_mem _ (mm_get_mem h)
theorem mm_get_has {A : Nat → Nat} {L : Array Slot} {nL i : Nat} {v : Value} {ls : List (Nat × Value)} (hl : lv_has L nL (mm_L A ls)) (h : mm_get ls i = some v) : L[i]? = some (.val (mm_v A v)) :=
  hl.2.2 (i, mm_v A v) (List.mem_map.mpr ⟨(i, v), mm_get_mem h, rfl⟩)
def mm_set1 (ls : List (Nat × Value)) (i : Nat) (v : Value) : List (Nat × Value) := (i, v) :: ls.filter (fun q => !(q.1 == i) && !(q.1 + 1 == i && q.2.category == 2))
def mm_set2 (ls : List (Nat × Value)) (i : Nat) (v : Value) : List (Nat × Value) := (i, v) :: ls.filter (fun q => !(q.1 == i) && (!(q.1 == i + 1) && !(q.1 + 1 == i && q.2.category == 2)))
theorem mm_filter (A : Nat → Nat) (P : Nat → Nat → Bool) : ∀ ls : List (Nat × Value), (mm_L A ls).filter (fun q => P q.1 q.2.category) = mm_L A (ls.filter (fun q => P q.1 q.2.category))
  | [] => rfl
  | q :: r => by
    have ih := mm_filter A P r
    simp only [mm_L, List.map_cons, List.filter_cons, mm_cat] at ih ⊢
    split
    · rw [List.map_cons, ih]
    · exact ih
theorem mm_set1_L (A : Nat → Nat) (ls : List (Nat × Value)) (i : Nat) (v : Value) : (i, mm_v A v) :: (mm_L A ls).filter (fun q => !(q.1 == i) && !(q.1 + 1 == i && q.2.category == 2)) = mm_L A (mm_set1 ls i v) := by
  have h := mm_filter A (fun a c => !(a == i) && !(a + 1 == i && c == 2)) ls
  simp only [mm_set1, mm_L, List.map_cons] at h ⊢
  rw [h]
theorem mm_set2_L (A : Nat → Nat) (ls : List (Nat × Value)) (i : Nat) (v : Value) : (i, mm_v A v) :: (mm_L A ls).filter (fun q => !(q.1 == i) && (!(q.1 == i + 1) && !(q.1 + 1 == i && q.2.category == 2))) = mm_L A (mm_set2 ls i v) := by
  have h := mm_filter A (fun a c => !(a == i) && (!(a == i + 1) && !(a + 1 == i && c == 2))) ls
  simp only [mm_set2, mm_L, List.map_cons] at h ⊢
  rw [h]
-- the instructions, in groups
def mm_con : Instr → Option (Value × Nat)
  | .iconst n => some (.int (Int32.ofInt n), 1)
  | .bipush n => some (.int (Int8.ofInt n).toInt32, 2)
  | .sipush n => some (.int (Int16.ofInt n).toInt32, 3)
  | .lconst n => some (.long (Int64.ofNat (n : Nat)), 1)
  | .aconst_null => some (.null, 1)
  | _ => none
/-- a load: which local, its length, its kind (0 int, 1 long, 2 a reference) -/
def mm_ld : Instr → Option (Nat × Nat × Nat)
  | .iload_n k => some ((k : Nat), 1, 0)
  | .iload i => some (i, 2, 0)
  | .lload_n k => some ((k : Nat), 1, 1)
  | .lload i => some (i, 2, 1)
  | .aload_n k => some ((k : Nat), 1, 2)
  | .aload i => some (i, 2, 2)
  | _ => none
def mm_sto : Instr → Option (Nat × Nat × Nat)
  | .istore_n k => some ((k : Nat), 1, 0)
  | .istore i => some (i, 2, 0)
  | .lstore_n k => some ((k : Nat), 1, 1)
  | .lstore i => some (i, 2, 1)
  | .astore_n k => some ((k : Nat), 1, 2)
  | .astore i => some (i, 2, 2)
  | _ => none
def mm_kind : Nat → Value → Bool
  | 0, .int _ => true
  | 1, .long _ => true
  | 2, .ref _ => true
  | 2, .null => true
  | _, _ => false
def mm_bin : Instr → Option (Int32 → Int32 → Int32)
  | .iadd => some (fun x y => x + y)
  | .isub => some (fun x y => x - y)
  | .imul => some (fun x y => x * y)
  | .iand => some (fun x y => x &&& y)
  | .ior => some (fun x y => x ||| y)
  | .ixor => some (fun x y => x ^^^ y)
  | .ishl => some (fun x y => x <<< (y &&& 31))
  | .ishr => some (fun x y => x >>> (y &&& 31))
  | .iushr => some (fun x y => (x.toUInt32 >>> (y.toUInt32 &&& Int32.toUInt32 31)).toInt32)
  | _ => none
def mm_binL : Instr → Option (Int64 → Int64 → Int64)
  | .ladd => some (fun x y => x + y)
  | .lsub => some (fun x y => x - y)
  | .lmul => some (fun x y => x * y)
  | .land => some (fun x y => x &&& y)
  | .lor => some (fun x y => x ||| y)
  | .lxor => some (fun x y => x ^^^ y)
  | _ => none
def mm_un : Instr → Value → Option Value
  | .ineg, .int x => some (.int (-x))
  | .i2c, .int x => some (.int (x.toUInt32 % 65536).toInt32)
  | .i2b, .int x => some (.int x.toInt8.toInt32)
  | .i2s, .int x => some (.int x.toInt16.toInt32)
  | .i2l, .int x => some (.long x.toInt64)
  | .l2i, .long x => some (.int x.toInt32)
  | .lneg, .long x => some (.long (-x))
  | _, _ => none
/-- a division: the divisor is not 0 -/
def mm_div : Instr → Option (Int32 → Int32 → Int32)
  | .idiv => some (fun x y => x / y)
  | .irem => some (fun x y => x - x / y * y)
  | _ => none
def mm_divL : Instr → Option (Int64 → Int64 → Int64)
  | .ldiv => some (fun x y => x / y)
  | .lrem => some (fun x y => x - x / y * y)
  | _ => none
def mm_stk : Instr → List Value → Option (List Value)
  | .dup, a :: r => if a.category = 1 then some (a :: a :: r) else none
  | .pop, a :: r => if a.category = 1 then some r else none
  | .dup_x1, a :: b :: r => if a.category = 1 ∧ b.category = 1 then some (a :: b :: a :: r) else none
  | .dup_x2, a :: b :: d :: r => if a.category = 1 ∧ b.category = 1 ∧ d.category = 1 then some (a :: b :: d :: a :: r) else none
  | .dup2, a :: r => if a.category = 2 then some (a :: a :: r) else match r with
    | b :: r => if a.category = 1 ∧ b.category = 1 then some (a :: b :: a :: b :: r) else none
    | [] => none
  | .pop2, a :: r => if a.category = 2 then some r else none
  | .dup2_x1, a :: b :: r => if a.category = 2 ∧ b.category = 1 then some (a :: b :: a :: r) else none
  | .dup2_x2, a :: b :: d :: r => if a.category = 2 ∧ b.category = 1 ∧ d.category = 1 then some (a :: b :: d :: a :: r) else none
  | _, _ => none
/-- a branch on ints: the condition, the offset, the rest -/
def mm_br : Instr → List Value → Option (Prop × Int × List Value)
  | .ifCond .eq o, .int x :: r => some (x = 0, o, r)
  | .ifCond .ne o, .int x :: r => some (¬ x = 0, o, r)
  | .ifCond .lt o, .int x :: r => some (x < 0, o, r)
  | .ifCond .ge o, .int x :: r => some (0 ≤ x, o, r)
  | .ifCond .gt o, .int x :: r => some (0 < x, o, r)
  | .ifCond .le o, .int x :: r => some (x ≤ 0, o, r)
  | .if_icmp .eq o, .int y :: .int x :: r => some (x = y, o, r)
  | .if_icmp .ne o, .int y :: .int x :: r => some (¬ x = y, o, r)
  | .if_icmp .lt o, .int y :: .int x :: r => some (x < y, o, r)
  | .if_icmp .ge o, .int y :: .int x :: r => some (y ≤ x, o, r)
  | .if_icmp .gt o, .int y :: .int x :: r => some (y < x, o, r)
  | .if_icmp .le o, .int y :: .int x :: r => some (x ≤ y, o, r)
  | _, _ => none
section MmPure
variable {p : Program} {l : Launch} {e : Env} {R : Room} {s : State} {m : MethodId} {args : Array Value} {below : List Frame} {meth : Method} {c : Code} {H : Heap} {locs : List Loc} {cells slots : Nat} {Q : State → Prop} {cc : ByteArray} {pc : Nat} {ins : Instr} {L : Array Slot} {nL : Nat} {A : Nat → Nat} {ls : List (Nat × Value)} {rest : List Value}
theorem mm_con_ok (hx : p.tables.exec = Jvm.exec) (hb : c.code = cc) {v : Value} {len : Nat} (h : mm_con ins = some (v, len)) (hdg : decode cc pc = .ok (ins, len))
    (k : W p l e R s m args below meth c H locs cells slots Q (F0 m (pc + len) L (mm_v A v :: rest))) : W p l e R s m args below meth c H locs cells slots Q (F0 m pc L rest) := by
  unfold mm_con at h
  split at h
  · cases h; exact lv_iconst hx hb hdg rfl k
  · cases h; exact lv_bipush hx hb hdg rfl k
  · cases h; exact lv_sipush hx hb hdg rfl k
  · cases h; exact lv_lconst hx hb hdg rfl k
  · cases h; exact lv_null hx hb hdg k
  · cases h
theorem mm_ld_ok (hx : p.tables.exec = Jvm.exec) (hb : c.code = cc) {i len kd : Nat} {v : Value} (h : mm_ld ins = some (i, len, kd)) (hv : L[i]? = some (.val (mm_v A v))) (hk : mm_kind kd v = true) (hdg : decode cc pc = .ok (ins, len))
    (k : W p l e R s m args below meth c H locs cells slots Q (F0 m (pc + len) L (mm_v A v :: rest))) : W p l e R s m args below meth c H locs cells slots Q (F0 m pc L rest) := by
  unfold mm_ld at h
  split at h
  · cases h; unfold mm_kind at hk; split at hk <;> first | (cases hk; done) | (rename_i h1; cases h1; done) | exact lv_iload_n hx hb hdg rfl hv k
  · cases h; unfold mm_kind at hk; split at hk <;> first | (cases hk; done) | (rename_i h1; cases h1; done) | exact lv_iload hx hb hdg hv k
  · cases h; unfold mm_kind at hk; split at hk <;> first | (cases hk; done) | (rename_i h1; cases h1; done) | exact lv_lload_n hx hb hdg rfl hv k
  · cases h; unfold mm_kind at hk; split at hk <;> first | (cases hk; done) | (rename_i h1; cases h1; done) | exact lv_lload hx hb hdg hv k
  · cases h; unfold mm_kind at hk; split at hk <;> first | (cases hk; done) | (rename_i h1; cases h1; done) | exact lv_aload_n hx hb hdg rfl hv k | exact lv_aload_nN hx hb hdg rfl hv k
  · cases h; unfold mm_kind at hk; split at hk <;> first | (cases hk; done) | (rename_i h1; cases h1; done) | exact lv_aload hx hb hdg hv k | exact lv_aloadN hx hb hdg hv k
  · cases h
theorem mm_bin_ok (hx : p.tables.exec = Jvm.exec) (hb : c.code = cc) {f : Int32 → Int32 → Int32} {x y : Int32} (h : mm_bin ins = some f) (hdg : decode cc pc = .ok (ins, 1))
    (k : W p l e R s m args below meth c H locs cells slots Q (F0 m (pc + 1) L (.int (f x y) :: rest))) : W p l e R s m args below meth c H locs cells slots Q (F0 m pc L (.int y :: .int x :: rest)) := by
  unfold mm_bin at h
  split at h
  · cases h; exact lv_iadd hx hb hdg k
  · cases h; exact lv_isub hx hb hdg k
  · cases h; exact lv_imul hx hb hdg k
  · cases h; exact lv_iand hx hb hdg k
  · cases h; exact lv_ior hx hb hdg k
  · cases h; exact lv_ixor hx hb hdg k
  · cases h; exact lv_ishl hx hb hdg k
  · cases h; exact lv_ishr hx hb hdg k
  · cases h; exact lv_iushr hx hb hdg rfl k
  · cases h
theorem mm_binL_ok (hx : p.tables.exec = Jvm.exec) (hb : c.code = cc) {f : Int64 → Int64 → Int64} {x y : Int64} (h : mm_binL ins = some f) (hdg : decode cc pc = .ok (ins, 1))
    (k : W p l e R s m args below meth c H locs cells slots Q (F0 m (pc + 1) L (.long (f x y) :: rest))) : W p l e R s m args below meth c H locs cells slots Q (F0 m pc L (.long y :: .long x :: rest)) := by
  unfold mm_binL at h
  split at h
  · cases h; exact lv_ladd hx hb hdg k
  · cases h; exact lv_lsub hx hb hdg k
  · cases h; exact lv_lmul hx hb hdg k
  · cases h; exact lv_land hx hb hdg k
  · cases h; exact lv_lor hx hb hdg k
  · cases h; exact lv_lxor hx hb hdg k
  · cases h
theorem mm_un_ok (hx : p.tables.exec = Jvm.exec) (hb : c.code = cc) {v w : Value} (h : mm_un ins v = some w) (hdg : decode cc pc = .ok (ins, 1))
    (k : W p l e R s m args below meth c H locs cells slots Q (F0 m (pc + 1) L (mm_v A w :: rest))) : W p l e R s m args below meth c H locs cells slots Q (F0 m pc L (mm_v A v :: rest)) := by
  unfold mm_un at h
  split at h
  · cases h; exact lv_ineg hx hb hdg k
  · cases h; exact lv_i2c hx hb hdg rfl k
  · cases h; exact lv_i2b hx hb hdg rfl k
  · cases h; exact lv_i2s hx hb hdg rfl k
  · cases h; exact lv_i2l hx hb hdg rfl k
  · cases h; exact lv_l2i hx hb hdg rfl k
  · cases h; exact lv_lneg hx hb hdg k
  · cases h
theorem mm_div_ok (hx : p.tables.exec = Jvm.exec) (hb : c.code = cc) {f : Int32 → Int32 → Int32} {x y : Int32} (h : mm_div ins = some f) (hy : ¬ y = 0) (hdg : decode cc pc = .ok (ins, 1))
    (k : W p l e R s m args below meth c H locs cells slots Q (F0 m (pc + 1) L (.int (f x y) :: rest))) : W p l e R s m args below meth c H locs cells slots Q (F0 m pc L (.int y :: .int x :: rest)) := by
  unfold mm_div at h
  split at h
  · cases h; exact lv_idiv hx hb hdg hy k
  · cases h; exact lv_irem hx hb hdg hy k
  · cases h
theorem mm_divL_ok (hx : p.tables.exec = Jvm.exec) (hb : c.code = cc) {f : Int64 → Int64 → Int64} {x y : Int64} (h : mm_divL ins = some f) (hy : ¬ y = 0) (hdg : decode cc pc = .ok (ins, 1))
    (k : W p l e R s m args below meth c H locs cells slots Q (F0 m (pc + 1) L (.long (f x y) :: rest))) : W p l e R s m args below meth c H locs cells slots Q (F0 m pc L (.long y :: .long x :: rest)) := by
  unfold mm_divL at h
  split at h
  · cases h; exact lv_ldiv hx hb hdg hy k
  · cases h; exact lv_lrem hx hb hdg hy k
  · cases h
theorem mm_stk_ok (hx : p.tables.exec = Jvm.exec) (hb : c.code = cc) {st st' : List Value} (h : mm_stk ins st = some st') (hdg : decode cc pc = .ok (ins, 1))
    (k : W p l e R s m args below meth c H locs cells slots Q (F0 m (pc + 1) L (mm_S A st'))) : W p l e R s m args below meth c H locs cells slots Q (F0 m pc L (mm_S A st)) := by
  unfold mm_stk at h
  split at h
  · split at h
    · rename_i h1; cases h; exact lv_dup hx hb hdg (by rw [mm_cat]; exact h1) k
    · cases h
  · split at h
    · rename_i h1; cases h; exact lv_pop hx hb hdg (by rw [mm_cat]; exact h1) k
    · cases h
  · split at h
    · rename_i h1; cases h; exact lv_dup_x1 hx hb hdg (by rw [mm_cat]; exact h1.1) (by rw [mm_cat]; exact h1.2) k
    · cases h
  · split at h
    · rename_i h1; cases h; exact lv_dup_x2 hx hb hdg (by rw [mm_cat]; exact h1.1) (by rw [mm_cat]; exact h1.2.1) (by rw [mm_cat]; exact h1.2.2) k
    · cases h
  · split at h
    · rename_i h1; cases h; exact lv_dup2_2 hx hb hdg (by rw [mm_cat]; exact h1) k
    · split at h
      · split at h
        · rename_i h1; cases h; exact lv_dup2_11 hx hb hdg (by rw [mm_cat]; exact h1.1) (by rw [mm_cat]; exact h1.2) k
        · cases h
      · cases h
  · split at h
    · rename_i h1; cases h; exact lv_pop2_2 hx hb hdg (by rw [mm_cat]; exact h1) k
    · cases h
  · split at h
    · rename_i h1; cases h; exact lv_dup2_x1_2 hx hb hdg (by rw [mm_cat]; exact h1.1) (by rw [mm_cat]; exact h1.2) k
    · cases h
  · split at h
    · rename_i h1; cases h; exact lv_dup2_x2_2 hx hb hdg (by rw [mm_cat]; exact h1.1) (by rw [mm_cat]; exact h1.2.1) (by rw [mm_cat]; exact h1.2.2) k
    · cases h
  · cases h
theorem mm_br_ok (hx : p.tables.exec = Jvm.exec) (hb : c.code = cc) {st st' : List Value} {P : Prop} {o : Int} {tgt : Nat} (h : mm_br ins st = some (P, o, st')) (hdg : decode cc pc = .ok (ins, 3)) (ht : (pc : Int) + o = (tgt : Int))
    (kt : P → W p l e R s m args below meth c H locs cells slots Q (F0 m tgt L (mm_S A st'))) (kf : ¬ P → W p l e R s m args below meth c H locs cells slots Q (F0 m (pc + 3) L (mm_S A st'))) : W p l e R s m args below meth c H locs cells slots Q (F0 m pc L (mm_S A st)) := by
  unfold mm_br at h
  split at h
  · cases h; exact lv_if_eq hx hb hdg ht kt kf
  · cases h; exact lv_if_ne hx hb hdg ht kt (fun q => kf (fun n => n q))
  · cases h; exact lv_if_lt hx hb hdg ht kt kf
  · cases h; exact lv_if_ge hx hb hdg ht kt kf
  · cases h; exact lv_if_gt hx hb hdg ht kt kf
  · cases h; exact lv_if_le hx hb hdg ht kt kf
  · cases h; exact lv_icmp_eq hx hb hdg ht kt kf
  · cases h; exact lv_icmp_ne hx hb hdg ht kt (fun q => kf (fun n => n q))
  · cases h; exact lv_icmp_lt hx hb hdg ht kt kf
  · cases h; exact lv_icmp_ge hx hb hdg ht kt kf
  · cases h; exact lv_icmp_gt hx hb hdg ht kt kf
  · cases h; exact lv_icmp_le hx hb hdg ht kt kf
  · cases h
theorem mm_sto_ok (hx : p.tables.exec = Jvm.exec) (hb : c.code = cc) {i len kd : Nat} {v : Value} (h : mm_sto ins = some (i, len, kd)) (hk : mm_kind kd v = true) (hl : lv_has L nL (mm_L A ls)) (hn : i + 1 < nL ∨ (i < nL ∧ v.category = 1)) (hdg : decode cc pc = .ok (ins, len))
    (k : ∀ L', lv_has L' nL (mm_L A (if v.category = 2 then mm_set2 ls i v else mm_set1 ls i v)) → W p l e R s m args below meth c H locs cells slots Q (F0 m (pc + len) L' rest)) : W p l e R s m args below meth c H locs cells slots Q (F0 m pc L (mm_v A v :: rest)) := by
  have hi : i < nL := hn.elim (fun q => by omega) (fun q => q.1)
  have k1 : ∀ L', lv_has L' nL (mm_L A (mm_set1 ls i v)) → v.category = 1 → W p l e R s m args below meth c H locs cells slots Q (F0 m (pc + len) L' rest) := fun L' q q1 => k L' (by rw [if_neg (by omega)]; exact q)
  have k2 : ∀ L', lv_has L' nL (mm_L A (mm_set2 ls i v)) → v.category = 2 → W p l e R s m args below meth c H locs cells slots Q (F0 m (pc + len) L' rest) := fun L' q q1 => k L' (by rw [if_pos q1]; exact q)
  unfold mm_sto at h
  split at h
  · cases h; unfold mm_kind at hk; split at hk <;> first | (cases hk; done) | (rename_i h1; cases h1; done) | exact lv_istore_n hx hb hdg rfl hl hi (mm_set1_L A ls _ (.int _)) (fun L' q => k1 L' q rfl)
  · cases h; unfold mm_kind at hk; split at hk <;> first | (cases hk; done) | (rename_i h1; cases h1; done) | exact lv_istore hx hb hdg hl hi (mm_set1_L A ls _ (.int _)) (fun L' q => k1 L' q rfl)
  · cases h; unfold mm_kind at hk; split at hk <;> first | (cases hk; done) | (rename_i h1; cases h1; done) | exact lv_lstore_n hx hb hdg rfl hl (hn.elim (fun q => q) (fun q => by have := q.2; simp [Value.category] at this)) (mm_set2_L A ls _ (.long _)) (fun L' q => k2 L' q rfl)
  · cases h; unfold mm_kind at hk; split at hk <;> first | (cases hk; done) | (rename_i h1; cases h1; done) | exact lv_lstore hx hb hdg hl (hn.elim (fun q => q) (fun q => by have := q.2; simp [Value.category] at this)) (mm_set2_L A ls _ (.long _)) (fun L' q => k2 L' q rfl)
  · cases h; unfold mm_kind at hk; split at hk <;> first | (cases hk; done) | (rename_i h1; cases h1; done) | exact lv_astore_n hx hb hdg rfl hl hi (mm_set1_L A ls _ (.ref _)) (fun L' q => k1 L' q rfl) | exact lv_astore_nN hx hb hdg rfl hl hi (mm_set1_L A ls _ .null) (fun L' q => k1 L' q rfl)
  · cases h; unfold mm_kind at hk; split at hk <;> first | (cases hk; done) | (rename_i h1; cases h1; done) | exact lv_astore hx hb hdg hl hi (mm_set1_L A ls _ (.ref _)) (fun L' q => k1 L' q rfl) | exact lv_astoreN hx hb hdg hl hi (mm_set1_L A ls _ .null) (fun L' q => k1 L' q rfl)
  · cases h
end MmPure
end
section
/-! THE CELLS of the small machine: a list g of them; position p + 1 is g's p-th; position 0 is the script. -/
def mm_a (A : Nat → Nat) : vp_A → vp_A
  | (n, .inr (.inr (.inr (.inr f)))) => (n, .inr (.inr (.inr (.inr (fun i => (f i).map A)))))
  | a => a
def mm_e (A : Nat → Nat) (cT : Nat → Nat) : va_E → va_E
  | .inl (t, a) => .inl (cT t, mm_a A a)
  | .inr (ci, fs) => .inr (ci, fs.map (mm_v A))
def mm_W (A : Nat → Nat) (cT : Nat → Nat) : Nat → List va_E → va_W
  | _, [] => []
  | p, e :: r => (A (p + 1), mm_e A cT e) :: mm_W A cT (p + 1) r
theorem mm_W_get (A : Nat → Nat) (cT : Nat → Nat) : ∀ (g : List va_E) (p i : Nat), (mm_W A cT p g)[i]? = (g[i]?).map (fun e => (A (p + i + 1), mm_e A cT e))
  | [], p, i => by simp [mm_W]
  | e :: r, p, 0 => by simp [mm_W]
  | e :: r, p, i + 1 => by
    have := mm_W_get A cT r (p + 1) i
    simp only [mm_W, List.getElem?_cons_succ, this]
    rw [show p + 1 + i + 1 = p + (i + 1) + 1 by omega]
theorem mm_W_set (A : Nat → Nat) (cT : Nat → Nat) (e' : va_E) : ∀ (g : List va_E) (p i : Nat), (mm_W A cT p g).set i (A (p + i + 1), mm_e A cT e') = mm_W A cT p (g.set i e')
  | [], p, i => by simp [mm_W]
  | e :: r, p, 0 => by simp [mm_W]
  | e :: r, p, i + 1 => by
    have := mm_W_set A cT e' r (p + 1) i
    rw [show p + 1 + i + 1 = p + (i + 1) + 1 by omega] at this
    simp only [mm_W, List.set_cons_succ, this]
theorem mm_W_app (A : Nat → Nat) (cT : Nat → Nat) (e' : va_E) : ∀ (g : List va_E) (p : Nat), mm_W A cT p (g ++ [e']) = mm_W A cT p g ++ [(A (p + g.length + 1), mm_e A cT e')]
  | [], p => by simp [mm_W]
  | e :: r, p => by
    have := mm_W_app A cT e' r (p + 1)
    simp only [List.cons_append, mm_W, this, List.length_cons]
    rw [show p + 1 + r.length + 1 = p + (r.length + 1) + 1 by omega]
def mm_T (cT : Nat → Nat) : Nat → List FieldType → List (ClassId × FieldType)
  | _, [] => []
  | t, y :: r => (cT t, y) :: mm_T cT (t + 1) r
theorem mm_T_get (cT : Nat → Nat) : ∀ (l : List FieldType) (t i : Nat), (mm_T cT t l)[i]? = (l[i]?).map (fun y => (cT (t + i), y))
  | [], t, i => by simp [mm_T]
  | y :: r, t, 0 => by simp [mm_T]
  | y :: r, t, i + 1 => by
    have := mm_T_get cT r (t + 1) i
    simp only [mm_T, List.getElem?_cons_succ, this]
    rw [show t + 1 + i = t + (i + 1) by omega]
/-- what a heap is: the cells of g, the script, nothing else has changed since the method's start -/
def mm_R (D : va_G) (cl : List vw_C) (cT : Nat → Nat) (b z Ln : Nat) (xs : Nat → Int32) (s : State) (g : List va_E) (H : Heap) (locs : List Loc) : Prop :=
  H.size = z + g.length ∧ va_P D cl (mm_W (mm_A b z) cT 0 g) H ∧ va_S (fun q => z ≤ q) s.heap H locs ∧ va_X b Ln xs s s.heap ∧ b < z ∧ z ≤ s.heap.size
theorem mm_R.D {D : va_G} {cl : List vw_C} {cT : Nat → Nat} {b z Ln : Nat} {xs : Nat → Int32} {s : State} {g : List va_E} {H : Heap} {locs : List Loc} (_ : mm_R D cl cT b z Ln xs s g H locs) : va_D (fun q => z ≤ q) (mm_W (mm_A b z) cT 0 g) := by
  refine ⟨fun i j p q hi hj he => ?_, fun k q hk => ?_⟩
  · rw [mm_W_get] at hi hj
    obtain ⟨e1, h1, rfl⟩ := Option.map_eq_some_iff.mp hi
    obtain ⟨e2, h2, rfl⟩ := Option.map_eq_some_iff.mp hj
    simp only [mm_A] at he
    omega
  · rw [mm_W_get] at hk
    obtain ⟨e1, h1, rfl⟩ := Option.map_eq_some_iff.mp hk
    simp only [mm_A]
    omega
theorem mm_at {D : va_G} {cl : List vw_C} {cT : Nat → Nat} {b z Ln : Nat} {xs : Nat → Int32} {s : State} {g : List va_E} {H : Heap} {locs : List Loc} (_ : mm_R D cl cT b z Ln xs s g H locs) {q : Nat} {e : va_E} (h : g[q]? = some e) : (mm_W (mm_A b z) cT 0 g)[q]? = some (mm_A b z (q + 1), mm_e (mm_A b z) cT e) := by
  rw [mm_W_get, h]
  simp
theorem mm_R.set {D : va_G} {cl : List vw_C} {cT : Nat → Nat} {b z Ln : Nat} {xs : Nat → Int32} {s : State} {g : List va_E} {H H1 : Heap} {locs locs1 : List Loc} (r : mm_R D cl cT b z Ln xs s g H locs) {q : Nat} {e' : va_E}
    (hP : va_P D cl ((mm_W (mm_A b z) cT 0 g).set q (mm_A b z (q + 1), mm_e (mm_A b z) cT e')) H1) (hS : va_S (fun q => z ≤ q) s.heap H1 locs1) (hz : H1.size = H.size) : mm_R D cl cT b z Ln xs s (g.set q e') H1 locs1 := by
  obtain ⟨h1, -, -, h4, h5, h6⟩ := r
  have hW := mm_W_set (mm_A b z) cT e' g 0 q
  rw [Nat.zero_add] at hW
  rw [hW] at hP
  exact ⟨by rw [hz, h1, List.length_set], hP, hS, h4, h5, h6⟩
theorem mm_R.push {D : va_G} {cl : List vw_C} {cT : Nat → Nat} {b z Ln : Nat} {xs : Nat → Int32} {s : State} {g : List va_E} {H H1 : Heap} {locs : List Loc} (r : mm_R D cl cT b z Ln xs s g H locs) {e' : va_E}
    (hn : va_at D cl (H.size, mm_e (mm_A b z) cT e') H1) (hz : H1.size = H.size + 1) (ho : ∀ q, q < H.size → H1[q]? = H[q]?) : mm_R D cl cT b z Ln xs s (g ++ [e']) H1 locs := by
  obtain ⟨h1, h2, h3, h4, h5, h6⟩ := r
  have hA : mm_A b z (0 + g.length + 1) = H.size := by simp only [mm_A]; omega
  refine ⟨by rw [hz, h1, List.length_append]; rfl, ?_, ⟨by have := h3.1; omega, fun q hq hn => ?_, h3.2.2⟩, h4, h5, h6⟩
  · rw [mm_W_app, hA]
    refine (h2.kept fun k x hx => ho _ (h2 k x hx).lt).app (fun k x hx => ?_)
    have hk : k = 0 := by
      have := (List.getElem?_eq_some_iff.mp hx).1
      simp at this
      omega
    subst hk
    cases hx
    exact hn
  · rw [ho q (by have := h3.1; omega)]
    exact h3.2.1 q hq hn
theorem mm_R.X {D : va_G} {cl : List vw_C} {cT : Nat → Nat} {b z Ln : Nat} {xs : Nat → Int32} {s : State} {g : List va_E} {H : Heap} {locs : List Loc} (r : mm_R D cl cT b z Ln xs s g H locs) : va_X b Ln xs s H := by
  obtain ⟨h1, h2, h3, ⟨scr, q1, q2, q3, q4, q5⟩, h5, h6⟩ := r
  exact ⟨scr, by rw [h3.2.1 b (by omega) (by omega)]; exact q1, q2, q3, q4, q5⟩
end
section
/-! ONE STEP, the part that touches no cell. nx: what must hold of the next state. -/
/-- an instruction's length (a switch's is not told here) -/
def mm_ln (ins : Instr) : Nat := match ins with
  | .bipush _ | .iload _ | .lload _ | .aload _ | .istore _ | .lstore _ | .astore _ | .newarray _ | .ldc _ => 2
  | .sipush _ | .goto _ | .ifCond _ _ | .if_icmp _ _ | .if_acmp _ _ | .ifnull _ | .ifnonnull _ | .iinc _ _ | .getfield _ | .putfield _ | .getstatic _ | .new _ | .anewarray _
  | .invokevirtual _ | .invokespecial _ | .invokestatic _ | .ldc_w _ | .ldc2_w _ => 3
  | _ => 1
theorem mm_con_ln {ins : Instr} {v : Value} {n : Nat} (h : mm_con ins = some (v, n)) : mm_ln ins = n := by
  unfold mm_con at h
  split at h <;> cases h <;> rfl
theorem mm_ld_ln {ins : Instr} {i n kd : Nat} (h : mm_ld ins = some (i, n, kd)) : mm_ln ins = n := by
  unfold mm_ld at h
  split at h <;> cases h <;> rfl
theorem mm_sto_ln {ins : Instr} {i n kd : Nat} (h : mm_sto ins = some (i, n, kd)) : mm_ln ins = n := by
  unfold mm_sto at h
  split at h <;> cases h <;> rfl
theorem mm_bin_ln {ins : Instr} {f : Int32 → Int32 → Int32} (h : mm_bin ins = some f) : mm_ln ins = 1 := by
  unfold mm_bin at h
  split at h <;> cases h <;> rfl
theorem mm_binL_ln {ins : Instr} {f : Int64 → Int64 → Int64} (h : mm_binL ins = some f) : mm_ln ins = 1 := by
  unfold mm_binL at h
  split at h <;> cases h <;> rfl
theorem mm_div_ln {ins : Instr} {f : Int32 → Int32 → Int32} (h : mm_div ins = some f) : mm_ln ins = 1 := by
  unfold mm_div at h
  split at h <;> cases h <;> rfl
theorem mm_divL_ln {ins : Instr} {f : Int64 → Int64 → Int64} (h : mm_divL ins = some f) : mm_ln ins = 1 := by
  unfold mm_divL at h
  split at h <;> cases h <;> rfl
theorem mm_un_ln {ins : Instr} {v w : Value} (h : mm_un ins v = some w) : mm_ln ins = 1 := by
  unfold mm_un at h
  split at h <;> cases h <;> rfl
theorem mm_stk_ln {ins : Instr} {st st' : List Value} (h : mm_stk ins st = some st') : mm_ln ins = 1 := by
  unfold mm_stk at h
  split at h <;> first | (cases h; done) | rfl
theorem mm_br_ln {ins : Instr} {st st' : List Value} {P : Prop} {o : Int} (h : mm_br ins st = some (P, o, st')) : mm_ln ins = 3 := by
  unfold mm_br at h
  split at h <;> cases h <;> rfl
/-- where a branch goes -/
def mm_tgt (pc : Nat) (o : Int) : Option Nat := match (pc : Int) + o with
  | .ofNat t => some t
  | .negSucc _ => none
theorem mm_tgt_ok {pc t : Nat} {o : Int} (h : mm_tgt pc o = some t) : (pc : Int) + o = (t : Int) := by
  unfold mm_tgt at h
  split at h
  · rename_i t' he
    cases h
    exact he
  · cases h
def mm_s1 (nL : Nat) (nx : Nat → List (Nat × Value) → List Value → Prop) (ins : Instr) (pc : Nat) (ls : List (Nat × Value)) (st : List Value) : Option Prop :=
  match mm_con ins with
  | some (v, _) => some (nx (pc + mm_ln ins) ls (v :: st))
  | none =>
  match mm_ld ins with
  | some (i, _, kd) => match mm_get ls i with
    | some v => match mm_kind kd v with
      | true => some (nx (pc + mm_ln ins) ls (v :: st))
      | false => some False
    | none => some False
  | none =>
  match mm_sto ins with
  | some (i, _, kd) => match st with
    | v :: r => match mm_kind kd v with
      | true => match decide (i + v.category ≤ nL) with
        | true => some (nx (pc + mm_ln ins) (if v.category = 2 then mm_set2 ls i v else mm_set1 ls i v) r)
        | false => some False
      | false => some False
    | [] => some False
  | none =>
  match mm_bin ins with
  | some f => match st with
    | .int y :: .int x :: r => some (nx (pc + 1) ls (.int (f x y) :: r))
    | _ => some False
  | none =>
  match mm_br ins st with
  | some (c, o, r) => match mm_tgt pc o with
    | some t => some ((c → nx t ls r) ∧ (¬ c → nx (pc + 3) ls r))
    | none => some False
  | none =>
  match mm_stk ins st with
  | some r => some (nx (pc + 1) ls r)
  | none =>
  match mm_binL ins with
  | some f => match st with
    | .long y :: .long x :: r => some (nx (pc + 1) ls (.long (f x y) :: r))
    | _ => some False
  | none =>
  match mm_div ins with
  | some f => match st with
    | .int y :: .int x :: r => some (¬ y = 0 ∧ nx (pc + 1) ls (.int (f x y) :: r))
    | _ => some False
  | none =>
  match mm_divL ins with
  | some f => match st with
    | .long y :: .long x :: r => some (¬ y = 0 ∧ nx (pc + 1) ls (.long (f x y) :: r))
    | _ => some False
  | none =>
  match ins with
  | .goto o => match mm_tgt pc o with
    | some t => some (nx t ls st)
    | none => some False
  | .iinc i c => match mm_get ls i with
    | some (.int x) => match decide (i < nL) with
      | true => some (nx (pc + 3) (mm_set1 ls i (.int (x + Int32.ofInt c))) st)
      | false => some False
    | _ => some False
  | .ifnull o => match st with
    | .null :: r => match mm_tgt pc o with
      | some t => some (nx t ls r)
      | none => some False
    | .ref _ :: r => some (nx (pc + 3) ls r)
    | _ => some False
  | .ifnonnull o => match st with
    | .ref _ :: r => match mm_tgt pc o with
      | some t => some (nx t ls r)
      | none => some False
    | .null :: r => some (nx (pc + 3) ls r)
    | _ => some False
  | .lcmp => match st with
    | .long y :: .long x :: r => some (nx (pc + 1) ls (.int (lg_cmp x y) :: r))
    | _ => some False
  | _ => match st with
    | v :: r => match mm_un ins v with
      | some w => some (nx (pc + 1) ls (w :: r))
      | none => none
    | [] => none
section MmS1
variable {p : Program} {l : Launch} {e : Env} {R : Room} {s : State} {m : MethodId} {args : Array Value} {below : List Frame} {meth : Method} {c : Code} {H : Heap} {locs : List Loc} {cells slots : Nat} {Q : State → Prop} {cc : ByteArray} {pc : Nat} {ins : Instr} {L : Array Slot} {nL : Nat} {A : Nat → Nat} {ls : List (Nat × Value)} {st : List Value}
set_option maxHeartbeats 1000000 in
theorem mm_s1_ok (hx : p.tables.exec = Jvm.exec) (hb : c.code = cc) {nx : Nat → List (Nat × Value) → List Value → Prop} {X : Prop} (h : mm_s1 nL nx ins pc ls st = some X) (hX : X) (hdg : decode cc pc = .ok (ins, mm_ln ins)) (hl : lv_has L nL (mm_L A ls))
    (k : ∀ pc' ls' st' L', nx pc' ls' st' → lv_has L' nL (mm_L A ls') → W p l e R s m args below meth c H locs cells slots Q (F0 m pc' L' (mm_S A st'))) : W p l e R s m args below meth c H locs cells slots Q (F0 m pc L (mm_S A st)) := by
  unfold mm_s1 at h
  split at h
  · rename_i v n hc
    cases h
    have hn := mm_con_ln hc
    rw [hn] at hdg hX
    exact mm_con_ok (A := A) hx hb hc hdg (k _ _ _ L hX hl)
  split at h
  · rename_i i n kd hc
    have hn := mm_ld_ln hc
    rw [hn] at hdg h
    split at h
    · rename_i v hv
      split at h
      · rename_i hk
        cases h
        exact mm_ld_ok (A := A) hx hb hc (mm_get_has hl hv) hk hdg (k _ _ _ L hX hl)
      · cases h; exact hX.elim
    · cases h; exact hX.elim
  split at h
  · rename_i i n kd hc
    have hn := mm_sto_ln hc
    rw [hn] at hdg h
    split at h
    · rename_i v r
      split at h
      · rename_i hk
        split at h
        · rename_i hd
          cases h
          have hd := of_decide_eq_true hd
          refine mm_sto_ok (A := A) hx hb hc hk hl ?_ hdg (fun L' hl' => k _ _ _ L' hX hl')
          rcases lv_cat v with q | q
          · exact Or.inr ⟨by omega, q⟩
          · exact Or.inl (by omega)
        · cases h; exact hX.elim
      · cases h; exact hX.elim
    · cases h; exact hX.elim
  split at h
  · rename_i f hc
    rw [mm_bin_ln hc] at hdg
    split at h
    · cases h; exact mm_bin_ok hx hb hc hdg (k _ _ _ L hX hl)
    · cases h; exact hX.elim
  split at h
  · rename_i c' o r hc
    rw [mm_br_ln hc] at hdg
    split at h
    · rename_i t ht
      cases h
      exact mm_br_ok (A := A) hx hb hc hdg (mm_tgt_ok ht) (fun q => k _ _ _ L (hX.1 q) hl) (fun q => k _ _ _ L (hX.2 q) hl)
    · cases h; exact hX.elim
  split at h
  · rename_i r hc
    rw [mm_stk_ln hc] at hdg
    cases h; exact mm_stk_ok (A := A) hx hb hc hdg (k _ _ _ L hX hl)
  split at h
  · rename_i f hc
    rw [mm_binL_ln hc] at hdg
    split at h
    · cases h; exact mm_binL_ok hx hb hc hdg (k _ _ _ L hX hl)
    · cases h; exact hX.elim
  split at h
  · rename_i f hc
    rw [mm_div_ln hc] at hdg
    split at h
    · cases h; exact mm_div_ok hx hb hc hX.1 hdg (k _ _ _ L hX.2 hl)
    · cases h; exact hX.elim
  split at h
  · rename_i f hc
    rw [mm_divL_ln hc] at hdg
    split at h
    · cases h; exact mm_divL_ok hx hb hc hX.1 hdg (k _ _ _ L hX.2 hl)
    · cases h; exact hX.elim
  split at h
  · split at h
    · rename_i t ht
      cases h; exact lv_goto hx hb hdg (mm_tgt_ok ht) (k _ _ _ L hX hl)
    · cases h; exact hX.elim
  · split at h
    · rename_i x hv
      split at h
      · rename_i hd
        cases h
        have hm := mm_get_mem hv
        have hm2 : (_, Value.int x) ∈ mm_L A ls := List.mem_map.mpr ⟨_, hm, rfl⟩
        obtain ⟨j, hj⟩ := List.getElem?_of_mem hm2
        exact lv_iinc hx hb hdg hl (k := j) hj rfl (of_decide_eq_true hd) (mm_set1_L A ls _ (.int _)) (fun L' hl' => k _ _ _ L' hX hl')
      · cases h; exact hX.elim
    · cases h; exact hX.elim
  · split at h
    · split at h
      · rename_i t ht
        cases h; exact lv_ifnullN hx hb hdg (mm_tgt_ok ht) (k _ _ _ L hX hl)
      · cases h; exact hX.elim
    · cases h; exact lv_ifnull hx hb hdg (k _ _ _ L hX hl)
    · cases h; exact hX.elim
  · split at h
    · split at h
      · rename_i t ht
        cases h; exact lv_ifnonnull hx hb hdg (mm_tgt_ok ht) (k _ _ _ L hX hl)
      · cases h; exact hX.elim
    · cases h; exact lv_ifnonnullN hx hb hdg (k _ _ _ L hX hl)
    · cases h; exact hX.elim
  · split at h
    · cases h; exact W.lcmp hx hb hdg (k _ _ _ L hX hl)
    · cases h; exact hX.elim
  · split at h
    · split at h
      · rename_i w hc
        rw [mm_un_ln hc] at hdg
        cases h; exact mm_un_ok (A := A) hx hb hc hdg (k _ _ _ L hX hl)
      · cases h
    · cases h
end MmS1
end

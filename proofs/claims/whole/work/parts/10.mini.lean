/-! A SMALL MACHINE whose runs are Props that Lean computes: a state is a list of locals, a stack, a list of cells by their POSITIONS (0: the script; the others in the order of their making); mm_ words are mine. -/
/-- a position's address: the script's cell b, or the cell that was made as the k-th since the heap had z cells -/
def mm_A (b : Nat → Nat) (z : Nat) : Nat → Nat
  | 0 => b 0
  | k + 1 => if k < 1000000 then z + k else b (k - 999999)
theorem mm_A_of {b : Nat → Nat} {z k : Nat} (h : k < 1000000) : mm_A b z (k + 1) = z + k := if_pos h
def mm_v (A : Nat → Nat) : Value → Value
  | .ref p => .ref (A p)
  | v => v
def mm_L (A : Nat → Nat) (ls : List (Nat × Value)) : List (Nat × Value) := ls.map (fun q => (q.1, mm_v A q.2))
def mm_S (A : Nat → Nat) (st : List Value) : List Value := st.map (mm_v A)
theorem mm_cat (A : Nat → Nat) (v : Value) : (mm_v A v).category = v.category := by cases v <;> rfl
def mm_get : List (Nat × Value) → Nat → Option Value
  | [], _ => none
  | q :: r, i => if q.1 = i then some q.2 else mm_get r i
theorem mm_get_mem {i : Nat} {v : Value} : ∀ {ls : List (Nat × Value)}, mm_get ls i = some v → (i, v) ∈ ls
  | [], h => by simp [mm_get] at h
  | q :: r, h => by
    unfold mm_get at h
    split at h
    · rename_i hq
      cases h
      subst hq
      exact List.mem_cons_self
    · exact List.mem_cons_of_mem _ (mm_get_mem h)
theorem mm_get_has {A : Nat → Nat} {L : Array Slot} {nL i : Nat} {v : Value} {ls : List (Nat × Value)} (hl : lv_has L nL (mm_L A ls)) (h : mm_get ls i = some v) : L[i]? = some (.val (mm_v A v)) :=
  hl.2.2 (i, mm_v A v) (List.mem_map.mpr ⟨(i, v), mm_get_mem h, rfl⟩)
def mm_set1 (ls : List (Nat × Value)) (i : Nat) (v : Value) : List (Nat × Value) := (i, v) :: ls.filter (fun q => !(q.1 == i) && !(q.1 + 1 == i && q.2.category == 2))
def mm_set2 (ls : List (Nat × Value)) (i : Nat) (v : Value) : List (Nat × Value) := (i, v) :: ls.filter (fun q => !(q.1 == i) && (!(q.1 == i + 1) && !(q.1 + 1 == i && q.2.category == 2)))
theorem mm_filter (A : Nat → Nat) (P : Nat → Nat → Bool) : ∀ ls : List (Nat × Value), (mm_L A ls).filter (fun q => P q.1 q.2.category) = mm_L A (ls.filter (fun q => P q.1 q.2.category))
  | [] => rfl
  | q :: r => by
    have ih := mm_filter A P r
    simp only [mm_L, List.map_cons, List.filter_cons, mm_cat] at ih ⊢
    split
    · rw [List.map_cons, ih]
    · exact ih
theorem mm_set1_L (A : Nat → Nat) (ls : List (Nat × Value)) (i : Nat) (v : Value) : (i, mm_v A v) :: (mm_L A ls).filter (fun q => !(q.1 == i) && !(q.1 + 1 == i && q.2.category == 2)) = mm_L A (mm_set1 ls i v) := by
  have h := mm_filter A (fun a c => !(a == i) && !(a + 1 == i && c == 2)) ls
  simp only [mm_set1, mm_L, List.map_cons] at h ⊢
  rw [h]
theorem mm_set2_L (A : Nat → Nat) (ls : List (Nat × Value)) (i : Nat) (v : Value) : (i, mm_v A v) :: (mm_L A ls).filter (fun q => !(q.1 == i) && (!(q.1 == i + 1) && !(q.1 + 1 == i && q.2.category == 2))) = mm_L A (mm_set2 ls i v) := by
  have h := mm_filter A (fun a c => !(a == i) && (!(a == i + 1) && !(a + 1 == i && c == 2))) ls
  simp only [mm_set2, mm_L, List.map_cons] at h ⊢
  rw [h]
-- the instructions, in groups
def mm_con : Instr → Option (Value × Nat)
  | .iconst n => some (.int (Int32.ofInt n), 1)
  | .bipush n => some (.int (Int8.ofInt n).toInt32, 2)
  | .sipush n => some (.int (Int16.ofInt n).toInt32, 3)
  | .lconst n => some (.long (Int64.ofNat (n : Nat)), 1)
  | .aconst_null => some (.null, 1)
  | _ => none
/-- a load: which local, its length, its kind (0 int, 1 long, 2 a reference) -/
def mm_ld : Instr → Option (Nat × Nat × Nat)
  | .iload_n k => some ((k : Nat), 1, 0)
  | .iload i => some (i, 2, 0)
  | .lload_n k => some ((k : Nat), 1, 1)
  | .lload i => some (i, 2, 1)
  | .aload_n k => some ((k : Nat), 1, 2)
  | .aload i => some (i, 2, 2)
  | _ => none
def mm_sto : Instr → Option (Nat × Nat × Nat)
  | .istore_n k => some ((k : Nat), 1, 0)
  | .istore i => some (i, 2, 0)
  | .lstore_n k => some ((k : Nat), 1, 1)
  | .lstore i => some (i, 2, 1)
  | .astore_n k => some ((k : Nat), 1, 2)
  | .astore i => some (i, 2, 2)
  | _ => none
def mm_kind : Nat → Value → Bool
  | 0, .int _ => true
  | 1, .long _ => true
  | 2, .ref _ => true
  | 2, .null => true
  | _, _ => false
def mm_bin : Instr → Option (Int32 → Int32 → Int32)
  | .iadd => some (fun x y => x + y)
  | .isub => some (fun x y => x - y)
  | .imul => some (fun x y => x * y)
  | .iand => some (fun x y => x &&& y)
  | .ior => some (fun x y => x ||| y)
  | .ixor => some (fun x y => x ^^^ y)
  | .ishl => some (fun x y => x <<< (y &&& 31))
  | .ishr => some (fun x y => x >>> (y &&& 31))
  | .iushr => some (fun x y => (x.toUInt32 >>> (y.toUInt32 &&& Int32.toUInt32 31)).toInt32)
  | _ => none
def mm_binL : Instr → Option (Int64 → Int64 → Int64)
  | .ladd => some (fun x y => x + y)
  | .lsub => some (fun x y => x - y)
  | .lmul => some (fun x y => x * y)
  | .land => some (fun x y => x &&& y)
  | .lor => some (fun x y => x ||| y)
  | .lxor => some (fun x y => x ^^^ y)
  | _ => none
def mm_un : Instr → Value → Option Value
  | .ineg, .int x => some (.int (-x))
  | .i2c, .int x => some (.int (x.toUInt32 % 65536).toInt32)
  | .i2b, .int x => some (.int x.toInt8.toInt32)
  | .i2s, .int x => some (.int x.toInt16.toInt32)
  | .i2l, .int x => some (.long x.toInt64)
  | .l2i, .long x => some (.int x.toInt32)
  | .lneg, .long x => some (.long (-x))
  | _, _ => none
/-- a division: the divisor is not 0 -/
def mm_div : Instr → Option (Int32 → Int32 → Int32)
  | .idiv => some (fun x y => x / y)
  | .irem => some (fun x y => x - x / y * y)
  | _ => none
def mm_divL : Instr → Option (Int64 → Int64 → Int64)
  | .ldiv => some (fun x y => x / y)
  | .lrem => some (fun x y => x - x / y * y)
  | _ => none
def mm_stk : Instr → List Value → Option (List Value)
  | .dup, a :: r => if a.category = 1 then some (a :: a :: r) else none
  | .pop, a :: r => if a.category = 1 then some r else none
  | .dup_x1, a :: b :: r => if a.category = 1 ∧ b.category = 1 then some (a :: b :: a :: r) else none
  | .dup_x2, a :: b :: d :: r => if a.category = 1 ∧ b.category = 1 ∧ d.category = 1 then some (a :: b :: d :: a :: r) else none
  | .dup2, a :: r => if a.category = 2 then some (a :: a :: r) else match r with
    | b :: r => if a.category = 1 ∧ b.category = 1 then some (a :: b :: a :: b :: r) else none
    | [] => none
  | .pop2, a :: r => if a.category = 2 then some r else none
  | .dup2_x1, a :: b :: r => if a.category = 2 ∧ b.category = 1 then some (a :: b :: a :: r) else none
  | .dup2_x2, a :: b :: d :: r => if a.category = 2 ∧ b.category = 1 ∧ d.category = 1 then some (a :: b :: d :: a :: r) else none
  | _, _ => none
/-- a branch on ints: the condition, the offset, the rest -/
def mm_br : Instr → List Value → Option (Prop × Int × List Value)
  | .ifCond .eq o, .int x :: r => some (x = 0, o, r)
  | .ifCond .ne o, .int x :: r => some (¬ x = 0, o, r)
  | .ifCond .lt o, .int x :: r => some (x < 0, o, r)
  | .ifCond .ge o, .int x :: r => some (0 ≤ x, o, r)
  | .ifCond .gt o, .int x :: r => some (0 < x, o, r)
  | .ifCond .le o, .int x :: r => some (x ≤ 0, o, r)
  | .if_icmp .eq o, .int y :: .int x :: r => some (x = y, o, r)
  | .if_icmp .ne o, .int y :: .int x :: r => some (¬ x = y, o, r)
  | .if_icmp .lt o, .int y :: .int x :: r => some (x < y, o, r)
  | .if_icmp .ge o, .int y :: .int x :: r => some (y ≤ x, o, r)
  | .if_icmp .gt o, .int y :: .int x :: r => some (y < x, o, r)
  | .if_icmp .le o, .int y :: .int x :: r => some (x ≤ y, o, r)
  | _, _ => none
section MmPure
variable {p : Program} {l : Launch} {e : Env} {R : Room} {s : State} {m : MethodId} {args : Array Value} {below : List Frame} {meth : Method} {c : Code} {H : Heap} {locs : List Loc} {cells slots : Nat} {Q : State → Prop} {cc : ByteArray} {pc : Nat} {ins : Instr} {L : Array Slot} {nL : Nat} {A : Nat → Nat} {ls : List (Nat × Value)} {rest : List Value}
theorem mm_con_ok (hx : p.tables.exec = Jvm.exec) (hb : c.code = cc) {v : Value} {len : Nat} (h : mm_con ins = some (v, len)) (hdg : decode cc pc = .ok (ins, len))
    (k : W p l e R s m args below meth c H locs cells slots Q (F0 m (pc + len) L (mm_v A v :: rest))) : W p l e R s m args below meth c H locs cells slots Q (F0 m pc L rest) := by
  unfold mm_con at h
  split at h
  · cases h; exact lv_iconst hx hb hdg rfl k
  · cases h; exact lv_bipush hx hb hdg rfl k
  · cases h; exact lv_sipush hx hb hdg rfl k
  · cases h; exact lv_lconst hx hb hdg rfl k
  · cases h; exact lv_null hx hb hdg k
  · cases h
theorem mm_ld_ok (hx : p.tables.exec = Jvm.exec) (hb : c.code = cc) {i len kd : Nat} {v : Value} (h : mm_ld ins = some (i, len, kd)) (hv : L[i]? = some (.val (mm_v A v))) (hk : mm_kind kd v = true) (hdg : decode cc pc = .ok (ins, len))
    (k : W p l e R s m args below meth c H locs cells slots Q (F0 m (pc + len) L (mm_v A v :: rest))) : W p l e R s m args below meth c H locs cells slots Q (F0 m pc L rest) := by
  unfold mm_ld at h
  split at h
  · cases h; unfold mm_kind at hk; split at hk <;> first | (cases hk; done) | (rename_i h1; cases h1; done) | exact lv_iload_n hx hb hdg rfl hv k
  · cases h; unfold mm_kind at hk; split at hk <;> first | (cases hk; done) | (rename_i h1; cases h1; done) | exact lv_iload hx hb hdg hv k
  · cases h; unfold mm_kind at hk; split at hk <;> first | (cases hk; done) | (rename_i h1; cases h1; done) | exact lv_lload_n hx hb hdg rfl hv k
  · cases h; unfold mm_kind at hk; split at hk <;> first | (cases hk; done) | (rename_i h1; cases h1; done) | exact lv_lload hx hb hdg hv k
  · cases h; unfold mm_kind at hk; split at hk <;> first | (cases hk; done) | (rename_i h1; cases h1; done) | exact lv_aload_n hx hb hdg rfl hv k | exact lv_aload_nN hx hb hdg rfl hv k
  · cases h; unfold mm_kind at hk; split at hk <;> first | (cases hk; done) | (rename_i h1; cases h1; done) | exact lv_aload hx hb hdg hv k | exact lv_aloadN hx hb hdg hv k
  · cases h
theorem mm_bin_ok (hx : p.tables.exec = Jvm.exec) (hb : c.code = cc) {f : Int32 → Int32 → Int32} {x y : Int32} (h : mm_bin ins = some f) (hdg : decode cc pc = .ok (ins, 1))
    (k : W p l e R s m args below meth c H locs cells slots Q (F0 m (pc + 1) L (.int (f x y) :: rest))) : W p l e R s m args below meth c H locs cells slots Q (F0 m pc L (.int y :: .int x :: rest)) := by
  unfold mm_bin at h
  split at h
  · cases h; exact lv_iadd hx hb hdg k
  · cases h; exact lv_isub hx hb hdg k
  · cases h; exact lv_imul hx hb hdg k
  · cases h; exact lv_iand hx hb hdg k
  · cases h; exact lv_ior hx hb hdg k
  · cases h; exact lv_ixor hx hb hdg k
  · cases h; exact lv_ishl hx hb hdg k
  · cases h; exact lv_ishr hx hb hdg k
  · cases h; exact lv_iushr hx hb hdg rfl k
  · cases h
theorem mm_binL_ok (hx : p.tables.exec = Jvm.exec) (hb : c.code = cc) {f : Int64 → Int64 → Int64} {x y : Int64} (h : mm_binL ins = some f) (hdg : decode cc pc = .ok (ins, 1))
    (k : W p l e R s m args below meth c H locs cells slots Q (F0 m (pc + 1) L (.long (f x y) :: rest))) : W p l e R s m args below meth c H locs cells slots Q (F0 m pc L (.long y :: .long x :: rest)) := by
  unfold mm_binL at h
  split at h
  · cases h; exact lv_ladd hx hb hdg k
  · cases h; exact lv_lsub hx hb hdg k
  · cases h; exact lv_lmul hx hb hdg k
  · cases h; exact lv_land hx hb hdg k
  · cases h; exact lv_lor hx hb hdg k
  · cases h; exact lv_lxor hx hb hdg k
  · cases h
theorem mm_un_ok (hx : p.tables.exec = Jvm.exec) (hb : c.code = cc) {v w : Value} (h : mm_un ins v = some w) (hdg : decode cc pc = .ok (ins, 1))
    (k : W p l e R s m args below meth c H locs cells slots Q (F0 m (pc + 1) L (mm_v A w :: rest))) : W p l e R s m args below meth c H locs cells slots Q (F0 m pc L (mm_v A v :: rest)) := by
  unfold mm_un at h
  split at h
  · cases h; exact lv_ineg hx hb hdg k
  · cases h; exact lv_i2c hx hb hdg rfl k
  · cases h; exact lv_i2b hx hb hdg rfl k
  · cases h; exact lv_i2s hx hb hdg rfl k
  · cases h; exact lv_i2l hx hb hdg rfl k
  · cases h; exact lv_l2i hx hb hdg rfl k
  · cases h; exact lv_lneg hx hb hdg k
  · cases h
theorem mm_div_ok (hx : p.tables.exec = Jvm.exec) (hb : c.code = cc) {f : Int32 → Int32 → Int32} {x y : Int32} (h : mm_div ins = some f) (hy : ¬ y = 0) (hdg : decode cc pc = .ok (ins, 1))
    (k : W p l e R s m args below meth c H locs cells slots Q (F0 m (pc + 1) L (.int (f x y) :: rest))) : W p l e R s m args below meth c H locs cells slots Q (F0 m pc L (.int y :: .int x :: rest)) := by
  unfold mm_div at h
  split at h
  · cases h; exact lv_idiv hx hb hdg hy k
  · cases h; exact lv_irem hx hb hdg hy k
  · cases h
theorem mm_divL_ok (hx : p.tables.exec = Jvm.exec) (hb : c.code = cc) {f : Int64 → Int64 → Int64} {x y : Int64} (h : mm_divL ins = some f) (hy : ¬ y = 0) (hdg : decode cc pc = .ok (ins, 1))
    (k : W p l e R s m args below meth c H locs cells slots Q (F0 m (pc + 1) L (.long (f x y) :: rest))) : W p l e R s m args below meth c H locs cells slots Q (F0 m pc L (.long y :: .long x :: rest)) := by
  unfold mm_divL at h
  split at h
  · cases h; exact lv_ldiv hx hb hdg hy k
  · cases h; exact lv_lrem hx hb hdg hy k
  · cases h
theorem mm_stk_ok (hx : p.tables.exec = Jvm.exec) (hb : c.code = cc) {st st' : List Value} (h : mm_stk ins st = some st') (hdg : decode cc pc = .ok (ins, 1))
    (k : W p l e R s m args below meth c H locs cells slots Q (F0 m (pc + 1) L (mm_S A st'))) : W p l e R s m args below meth c H locs cells slots Q (F0 m pc L (mm_S A st)) := by
  unfold mm_stk at h
  split at h
  · split at h
    · rename_i h1; cases h; exact lv_dup hx hb hdg (by rw [mm_cat]; exact h1) k
    · cases h
  · split at h
    · rename_i h1; cases h; exact lv_pop hx hb hdg (by rw [mm_cat]; exact h1) k
    · cases h
  · split at h
    · rename_i h1; cases h; exact lv_dup_x1 hx hb hdg (by rw [mm_cat]; exact h1.1) (by rw [mm_cat]; exact h1.2) k
    · cases h
  · split at h
    · rename_i h1; cases h; exact lv_dup_x2 hx hb hdg (by rw [mm_cat]; exact h1.1) (by rw [mm_cat]; exact h1.2.1) (by rw [mm_cat]; exact h1.2.2) k
    · cases h
  · split at h
    · rename_i h1; cases h; exact lv_dup2_2 hx hb hdg (by rw [mm_cat]; exact h1) k
    · split at h
      · split at h
        · rename_i h1; cases h; exact lv_dup2_11 hx hb hdg (by rw [mm_cat]; exact h1.1) (by rw [mm_cat]; exact h1.2) k
        · cases h
      · cases h
  · split at h
    · rename_i h1; cases h; exact lv_pop2_2 hx hb hdg (by rw [mm_cat]; exact h1) k
    · cases h
  · split at h
    · rename_i h1; cases h; exact lv_dup2_x1_2 hx hb hdg (by rw [mm_cat]; exact h1.1) (by rw [mm_cat]; exact h1.2) k
    · cases h
  · split at h
    · rename_i h1; cases h; exact lv_dup2_x2_2 hx hb hdg (by rw [mm_cat]; exact h1.1) (by rw [mm_cat]; exact h1.2.1) (by rw [mm_cat]; exact h1.2.2) k
    · cases h
  · cases h
theorem mm_br_ok (hx : p.tables.exec = Jvm.exec) (hb : c.code = cc) {st st' : List Value} {P : Prop} {o : Int} {tgt : Nat} (h : mm_br ins st = some (P, o, st')) (hdg : decode cc pc = .ok (ins, 3)) (ht : (pc : Int) + o = (tgt : Int))
    (kt : P → W p l e R s m args below meth c H locs cells slots Q (F0 m tgt L (mm_S A st'))) (kf : ¬ P → W p l e R s m args below meth c H locs cells slots Q (F0 m (pc + 3) L (mm_S A st'))) : W p l e R s m args below meth c H locs cells slots Q (F0 m pc L (mm_S A st)) := by
  unfold mm_br at h
  split at h
  · cases h; exact lv_if_eq hx hb hdg ht kt kf
  · cases h; exact lv_if_ne hx hb hdg ht kt (fun q => kf (fun n => n q))
  · cases h; exact lv_if_lt hx hb hdg ht kt kf
  · cases h; exact lv_if_ge hx hb hdg ht kt kf
  · cases h; exact lv_if_gt hx hb hdg ht kt kf
  · cases h; exact lv_if_le hx hb hdg ht kt kf
  · cases h; exact lv_icmp_eq hx hb hdg ht kt kf
  · cases h; exact lv_icmp_ne hx hb hdg ht kt (fun q => kf (fun n => n q))
  · cases h; exact lv_icmp_lt hx hb hdg ht kt kf
  · cases h; exact lv_icmp_ge hx hb hdg ht kt kf
  · cases h; exact lv_icmp_gt hx hb hdg ht kt kf
  · cases h; exact lv_icmp_le hx hb hdg ht kt kf
  · cases h
theorem mm_sto_ok (hx : p.tables.exec = Jvm.exec) (hb : c.code = cc) {i len kd : Nat} {v : Value} (h : mm_sto ins = some (i, len, kd)) (hk : mm_kind kd v = true) (hl : lv_has L nL (mm_L A ls)) (hn : i + 1 < nL ∨ (i < nL ∧ v.category = 1)) (hdg : decode cc pc = .ok (ins, len))
    (k : ∀ L', lv_has L' nL (mm_L A (if v.category = 2 then mm_set2 ls i v else mm_set1 ls i v)) → W p l e R s m args below meth c H locs cells slots Q (F0 m (pc + len) L' rest)) : W p l e R s m args below meth c H locs cells slots Q (F0 m pc L (mm_v A v :: rest)) := by
  have hi : i < nL := hn.elim (fun q => by omega) (fun q => q.1)
  have k1 : ∀ L', lv_has L' nL (mm_L A (mm_set1 ls i v)) → v.category = 1 → W p l e R s m args below meth c H locs cells slots Q (F0 m (pc + len) L' rest) := fun L' q q1 => k L' (by rw [if_neg (by omega)]; exact q)
  have k2 : ∀ L', lv_has L' nL (mm_L A (mm_set2 ls i v)) → v.category = 2 → W p l e R s m args below meth c H locs cells slots Q (F0 m (pc + len) L' rest) := fun L' q q1 => k L' (by rw [if_pos q1]; exact q)
  unfold mm_sto at h
  split at h
  · cases h; unfold mm_kind at hk; split at hk <;> first | (cases hk; done) | (rename_i h1; cases h1; done) | exact lv_istore_n hx hb hdg rfl hl hi (mm_set1_L A ls _ (.int _)) (fun L' q => k1 L' q rfl)
  · cases h; unfold mm_kind at hk; split at hk <;> first | (cases hk; done) | (rename_i h1; cases h1; done) | exact lv_istore hx hb hdg hl hi (mm_set1_L A ls _ (.int _)) (fun L' q => k1 L' q rfl)
  · cases h; unfold mm_kind at hk; split at hk <;> first | (cases hk; done) | (rename_i h1; cases h1; done) | exact lv_lstore_n hx hb hdg rfl hl (hn.elim (fun q => q) (fun q => by have := q.2; simp [Value.category] at this)) (mm_set2_L A ls _ (.long _)) (fun L' q => k2 L' q rfl)
  · cases h; unfold mm_kind at hk; split at hk <;> first | (cases hk; done) | (rename_i h1; cases h1; done) | exact lv_lstore hx hb hdg hl (hn.elim (fun q => q) (fun q => by have := q.2; simp [Value.category] at this)) (mm_set2_L A ls _ (.long _)) (fun L' q => k2 L' q rfl)
  · cases h; unfold mm_kind at hk; split at hk <;> first | (cases hk; done) | (rename_i h1; cases h1; done) | exact lv_astore_n hx hb hdg rfl hl hi (mm_set1_L A ls _ (.ref _)) (fun L' q => k1 L' q rfl) | exact lv_astore_nN hx hb hdg rfl hl hi (mm_set1_L A ls _ .null) (fun L' q => k1 L' q rfl)
  · cases h; unfold mm_kind at hk; split at hk <;> first | (cases hk; done) | (rename_i h1; cases h1; done) | exact lv_astore hx hb hdg hl hi (mm_set1_L A ls _ (.ref _)) (fun L' q => k1 L' q rfl) | exact lv_astoreN hx hb hdg hl hi (mm_set1_L A ls _ .null) (fun L' q => k1 L' q rfl)
  · cases h
end MmPure

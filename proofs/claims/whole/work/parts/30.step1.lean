/-! ONE STEP, the part that touches no cell. nx: what must hold of the next state. -/
/-- an instruction's length (a switch's is not told here) -/
def mm_ln (ins : Instr) : Nat := match ins with
  | .bipush _ | .iload _ | .lload _ | .aload _ | .istore _ | .lstore _ | .astore _ | .newarray _ | .ldc _ => 2
  | .sipush _ | .goto _ | .ifCond _ _ | .if_icmp _ _ | .if_acmp _ _ | .ifnull _ | .ifnonnull _ | .iinc _ _ | .getfield _ | .putfield _ | .getstatic _ | .new _ | .anewarray _
  | .invokevirtual _ | .invokespecial _ | .invokestatic _ | .ldc_w _ | .ldc2_w _ => 3
  | _ => 1
theorem mm_con_ln {ins : Instr} {v : Value} {n : Nat} (h : mm_con ins = some (v, n)) : mm_ln ins = n := by
  unfold mm_con at h
  split at h <;> cases h <;> rfl
theorem mm_ld_ln {ins : Instr} {i n kd : Nat} (h : mm_ld ins = some (i, n, kd)) : mm_ln ins = n := by
  unfold mm_ld at h
  split at h <;> cases h <;> rfl
theorem mm_sto_ln {ins : Instr} {i n kd : Nat} (h : mm_sto ins = some (i, n, kd)) : mm_ln ins = n := by
  unfold mm_sto at h
  split at h <;> cases h <;> rfl
theorem mm_bin_ln {ins : Instr} {f : Int32 → Int32 → Int32} (h : mm_bin ins = some f) : mm_ln ins = 1 := by
  unfold mm_bin at h
  split at h <;> cases h <;> rfl
theorem mm_binL_ln {ins : Instr} {f : Int64 → Int64 → Int64} (h : mm_binL ins = some f) : mm_ln ins = 1 := by
  unfold mm_binL at h
  split at h <;> cases h <;> rfl
theorem mm_div_ln {ins : Instr} {f : Int32 → Int32 → Int32} (h : mm_div ins = some f) : mm_ln ins = 1 := by
  unfold mm_div at h
  split at h <;> cases h <;> rfl
theorem mm_divL_ln {ins : Instr} {f : Int64 → Int64 → Int64} (h : mm_divL ins = some f) : mm_ln ins = 1 := by
  unfold mm_divL at h
  split at h <;> cases h <;> rfl
theorem mm_un_ln {ins : Instr} {v w : Value} (h : mm_un ins v = some w) : mm_ln ins = 1 := by
  unfold mm_un at h
  split at h <;> cases h <;> rfl
theorem mm_stk_ln {ins : Instr} {st st' : List Value} (h : mm_stk ins st = some st') : mm_ln ins = 1 := by
  unfold mm_stk at h
  split at h <;> first | (cases h; done) | rfl
theorem mm_br_ln {ins : Instr} {st st' : List Value} {P : Prop} {o : Int} (h : mm_br ins st = some (P, o, st')) : mm_ln ins = 3 := by
  unfold mm_br at h
  split at h <;> cases h <;> rfl
/-- where a branch goes -/
def mm_tgt (pc : Nat) (o : Int) : Option Nat := match (pc : Int) + o with
  | .ofNat t => some t
  | .negSucc _ => none
theorem mm_tgt_ok {pc t : Nat} {o : Int} (h : mm_tgt pc o = some t) : (pc : Int) + o = (t : Int) := by
  unfold mm_tgt at h
  split at h
  · rename_i t' he
    cases h
    exact he
  · cases h
def mm_s1 (nL : Nat) (nx : Nat → List (Nat × Value) → List Value → Prop) (ins : Instr) (pc : Nat) (ls : List (Nat × Value)) (st : List Value) : Option Prop :=
  match mm_con ins with
  | some (v, _) => some (nx (pc + mm_ln ins) ls (v :: st))
  | none =>
  match mm_ld ins with
  | some (i, _, kd) => match mm_get ls i with
    | some v => match mm_kind kd v with
      | true => some (nx (pc + mm_ln ins) ls (v :: st))
      | false => some False
    | none => some False
  | none =>
  match mm_sto ins with
  | some (i, _, kd) => match st with
    | v :: r => match mm_kind kd v with
      | true => match decide (i + v.category ≤ nL) with
        | true => some (nx (pc + mm_ln ins) (if v.category = 2 then mm_set2 ls i v else mm_set1 ls i v) r)
        | false => some False
      | false => some False
    | [] => some False
  | none =>
  match mm_bin ins with
  | some f => match st with
    | .int y :: .int x :: r => some (nx (pc + 1) ls (.int (f x y) :: r))
    | _ => some False
  | none =>
  match mm_br ins st with
  | some (c, o, r) => match mm_tgt pc o with
    | some t => some ((c → nx t ls r) ∧ (¬ c → nx (pc + 3) ls r))
    | none => some False
  | none =>
  match mm_stk ins st with
  | some r => some (nx (pc + 1) ls r)
  | none =>
  match mm_binL ins with
  | some f => match st with
    | .long y :: .long x :: r => some (nx (pc + 1) ls (.long (f x y) :: r))
    | _ => some False
  | none =>
  match mm_div ins with
  | some f => match st with
    | .int y :: .int x :: r => some (¬ y = 0 ∧ nx (pc + 1) ls (.int (f x y) :: r))
    | _ => some False
  | none =>
  match mm_divL ins with
  | some f => match st with
    | .long y :: .long x :: r => some (¬ y = 0 ∧ nx (pc + 1) ls (.long (f x y) :: r))
    | _ => some False
  | none =>
  match ins with
  | .goto o => match mm_tgt pc o with
    | some t => some (nx t ls st)
    | none => some False
  | .iinc i c => match mm_get ls i with
    | some (.int x) => match decide (i < nL) with
      | true => some (nx (pc + 3) (mm_set1 ls i (.int (x + Int32.ofInt c))) st)
      | false => some False
    | _ => some False
  | .ifnull o => match st with
    | .null :: r => match mm_tgt pc o with
      | some t => some (nx t ls r)
      | none => some False
    | .ref _ :: r => some (nx (pc + 3) ls r)
    | _ => some False
  | .ifnonnull o => match st with
    | .ref _ :: r => match mm_tgt pc o with
      | some t => some (nx t ls r)
      | none => some False
    | .null :: r => some (nx (pc + 3) ls r)
    | _ => some False
  | .lcmp => match st with
    | .long y :: .long x :: r => some (nx (pc + 1) ls (.int (lg_cmp x y) :: r))
    | _ => some False
  | _ => match st with
    | v :: r => match mm_un ins v with
      | some w => some (nx (pc + 1) ls (w :: r))
      | none => none
    | [] => none
section MmS1
variable {p : Program} {l : Launch} {e : Env} {R : Room} {s : State} {m : MethodId} {args : Array Value} {below : List Frame} {meth : Method} {c : Code} {H : Heap} {locs : List Loc} {cells slots : Nat} {Q : State → Prop} {cc : ByteArray} {pc : Nat} {ins : Instr} {L : Array Slot} {nL : Nat} {A : Nat → Nat} {ls : List (Nat × Value)} {st : List Value}
set_option maxHeartbeats 1000000 in
theorem mm_s1_ok (hx : p.tables.exec = Jvm.exec) (hb : c.code = cc) {nx : Nat → List (Nat × Value) → List Value → Prop} {X : Prop} (h : mm_s1 nL nx ins pc ls st = some X) (hX : X) (hdg : decode cc pc = .ok (ins, mm_ln ins)) (hl : lv_has L nL (mm_L A ls))
    (k : ∀ pc' ls' st' L', nx pc' ls' st' → lv_has L' nL (mm_L A ls') → W p l e R s m args below meth c H locs cells slots Q (F0 m pc' L' (mm_S A st'))) : W p l e R s m args below meth c H locs cells slots Q (F0 m pc L (mm_S A st)) := by
  unfold mm_s1 at h
  split at h
  · rename_i v n hc
    cases h
    have hn := mm_con_ln hc
    rw [hn] at hdg hX
    exact mm_con_ok (A := A) hx hb hc hdg (k _ _ _ L hX hl)
  split at h
  · rename_i i n kd hc
    have hn := mm_ld_ln hc
    rw [hn] at hdg h
    split at h
    · rename_i v hv
      split at h
      · rename_i hk
        cases h
        exact mm_ld_ok (A := A) hx hb hc (mm_get_has hl hv) hk hdg (k _ _ _ L hX hl)
      · cases h; exact hX.elim
    · cases h; exact hX.elim
  split at h
  · rename_i i n kd hc
    have hn := mm_sto_ln hc
    rw [hn] at hdg h
    split at h
    · rename_i v r
      split at h
      · rename_i hk
        split at h
        · rename_i hd
          cases h
          have hd := of_decide_eq_true hd
          refine mm_sto_ok (A := A) hx hb hc hk hl ?_ hdg (fun L' hl' => k _ _ _ L' hX hl')
          rcases lv_cat v with q | q
          · exact Or.inr ⟨by omega, q⟩
          · exact Or.inl (by omega)
        · cases h; exact hX.elim
      · cases h; exact hX.elim
    · cases h; exact hX.elim
  split at h
  · rename_i f hc
    rw [mm_bin_ln hc] at hdg
    split at h
    · cases h; exact mm_bin_ok hx hb hc hdg (k _ _ _ L hX hl)
    · cases h; exact hX.elim
  split at h
  · rename_i c' o r hc
    rw [mm_br_ln hc] at hdg
    split at h
    · rename_i t ht
      cases h
      exact mm_br_ok (A := A) hx hb hc hdg (mm_tgt_ok ht) (fun q => k _ _ _ L (hX.1 q) hl) (fun q => k _ _ _ L (hX.2 q) hl)
    · cases h; exact hX.elim
  split at h
  · rename_i r hc
    rw [mm_stk_ln hc] at hdg
    cases h; exact mm_stk_ok (A := A) hx hb hc hdg (k _ _ _ L hX hl)
  split at h
  · rename_i f hc
    rw [mm_binL_ln hc] at hdg
    split at h
    · cases h; exact mm_binL_ok hx hb hc hdg (k _ _ _ L hX hl)
    · cases h; exact hX.elim
  split at h
  · rename_i f hc
    rw [mm_div_ln hc] at hdg
    split at h
    · cases h; exact mm_div_ok hx hb hc hX.1 hdg (k _ _ _ L hX.2 hl)
    · cases h; exact hX.elim
  split at h
  · rename_i f hc
    rw [mm_divL_ln hc] at hdg
    split at h
    · cases h; exact mm_divL_ok hx hb hc hX.1 hdg (k _ _ _ L hX.2 hl)
    · cases h; exact hX.elim
  split at h
  · split at h
    · rename_i t ht
      cases h; exact lv_goto hx hb hdg (mm_tgt_ok ht) (k _ _ _ L hX hl)
    · cases h; exact hX.elim
  · split at h
    · rename_i x hv
      split at h
      · rename_i hd
        cases h
        have hm := mm_get_mem hv
        have hm2 : (_, Value.int x) ∈ mm_L A ls := List.mem_map.mpr ⟨_, hm, rfl⟩
        obtain ⟨j, hj⟩ := List.getElem?_of_mem hm2
        exact lv_iinc hx hb hdg hl (k := j) hj rfl (of_decide_eq_true hd) (mm_set1_L A ls _ (.int _)) (fun L' hl' => k _ _ _ L' hX hl')
      · cases h; exact hX.elim
    · cases h; exact hX.elim
  · split at h
    · split at h
      · rename_i t ht
        cases h; exact lv_ifnullN hx hb hdg (mm_tgt_ok ht) (k _ _ _ L hX hl)
      · cases h; exact hX.elim
    · cases h; exact lv_ifnull hx hb hdg (k _ _ _ L hX hl)
    · cases h; exact hX.elim
  · split at h
    · split at h
      · rename_i t ht
        cases h; exact lv_ifnonnull hx hb hdg (mm_tgt_ok ht) (k _ _ _ L hX hl)
      · cases h; exact hX.elim
    · cases h; exact lv_ifnonnullN hx hb hdg (k _ _ _ L hX hl)
    · cases h; exact hX.elim
  · split at h
    · cases h; exact W.lcmp hx hb hdg (k _ _ _ L hX hl)
    · cases h; exact hX.elim
  · split at h
    · split at h
      · rename_i w hc
        rw [mm_un_ln hc] at hdg
        cases h; exact mm_un_ok (A := A) hx hb hc hdg (k _ _ _ L hX hl)
      · cases h
    · cases h
end MmS1

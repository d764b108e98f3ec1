/-! ONE STEP that touches cells. -/
theorem mm_R.put {D : va_G} {cl : List vw_C} {cT : Nat → Nat} {b : Nat → Nat} {z : Nat} {eX : Nat → Nat × (Nat → Int32)} {s : State} {g : List va_E} {H H1 : Heap} {locs : List Loc} (r : mm_R D cl cT b z eX s g H locs) {q : Nat} {e0 e' : va_E} (hq : g[q]? = some e0)
    (he : va_at D cl (mm_A b z (q + 1), mm_e (mm_A b z) cT e') H1) (hz : H1.size = H.size) (oq : ∀ x : Nat, x ≠ mm_A b z (q + 1) → H1[x]? = H[x]?) (i : Nat) : mm_R D cl cT b z eX s (g.set q e') H1 (locs ++ [⟨mm_A b z (q + 1), i⟩]) :=
  r.set (r.2.1.set r.D (mm_at r hq) he oq) (r.2.2.1.put hz oq (by have l1 := (List.getElem?_eq_some_iff.mp hq).1; have hl := r.2.2.2.2.1.2; show z ≤ mm_A b z (q + 1); rw [mm_A_of (by omega)]; omega)) hz
theorem mm_cell_i (A : Nat → Nat) (cA : ClassId) (n : Nat) (f : Nat → Int32) : vp_cell cA (mm_a A (n, .inl f)) = arrV cA n (fun j => .int (f j)) := rfl
theorem mm_cell_l (A : Nat → Nat) (cA : ClassId) (n : Nat) (f : Nat → Int64) : vp_cell cA (mm_a A (n, .inr (.inl f))) = arrV cA n (fun j => .long (f j)) := rfl
theorem mm_cell_q (A : Nat → Nat) (cA : ClassId) (n : Nat) (f : Nat → Option Nat) : vp_cell cA (mm_a A (n, .inr (.inr (.inr (.inr f))))) = arrV cA n (fun j => va_rf ((f j).map A)) := rfl
section MmCell
variable {p : Program} {l : Launch} {e : Env} {R : Room} {s : State} {m : MethodId} {args : Array Value} {below : List Frame} {meth : Method} {c : Code} {H : Heap} {locs : List Loc} {cells slots : Nat} {Q : State → Prop} {cc : ByteArray} {pc : Nat} {L : Array Slot} {D : va_G} {cl : List vw_C} {cT : Nat → Nat} {b : Nat → Nat} {z : Nat} {eX : Nat → Nat × (Nat → Int32)} {g : List va_E} {rest : List Value} {tyl : List FieldType} {TB : List Cond}
theorem mm_getf_ok (hx : p.tables.exec = Jvm.exec) (hb : c.code = cc) {own C : String} {T : u_T} {N ci index j q : Nat} {fs : List Value} {v : Value} (hts : ∀ w ∈ TB, w.before args s = true) (hin : ∀ w ∈ u_ws C T N, w ∈ TB) (hown : s.vm.findClass own = some m.cls) (hK : va_K D cl (mm_T cT 0 tyl) s) (hR : mm_R D cl cT b z eX s g H locs)
    (hq : g[q]? = some (.inr (ci, fs))) (hc : cl[ci]? = some (C, T, N)) (hj : j < N) (hlink : Cond.fieldLink own index (T j).1 (T j).2.1 (T j).2.2.1 ∈ TB) (hv : fs[j]? = some v) (hdg : decode cc pc = .ok (.getfield index, 3))
    (k : W p l e R s m args below meth c H locs cells slots Q (F0 m (pc + 3) L (mm_v (mm_A b z) v :: rest))) : W p l e R s m args below meth c H locs cells slots Q (F0 m pc L (.ref (mm_A b z (q + 1)) :: rest)) :=
  va_get (fs := fs.map (mm_v (mm_A b z))) hx hb hts hin hown hK hR.2.1 q (mm_at hR hq) hc j hj (hts _ hlink) (fun _ h => h) (by rw [List.getElem?_map, hv]; rfl) hdg k
theorem mm_putf_ok (hx : p.tables.exec = Jvm.exec) (hb : c.code = cc) {own C : String} {T : u_T} {N ci index j q : Nat} {fs : List Value} {v : Value} {ft : Nat → FieldType} (hts : ∀ w ∈ TB, w.before args s = true) (hin : ∀ w ∈ u_ws C T N, w ∈ TB) (hown : s.vm.findClass own = some m.cls) (hK : va_K D cl (mm_T cT 0 tyl) s) (hR : mm_R D cl cT b z eX s g H locs)
    (hq : g[q]? = some (.inr (ci, fs))) (hc : cl[ci]? = some (C, T, N)) (hj : j < N) (hlink : Cond.fieldLink own index (T j).1 (T j).2.1 (T j).2.2.1 ∈ TB) (hty : ∀ k, k < N → parseFieldDescriptor (T k).2.2.1 = some (ft k)) (hnm : ∀ a, a < N → ∀ b, b < N → a ≠ b → (T a).2.1 ≠ (T b).2.1)
    (hfin : (T j).2.2.2 = false ∨ ((T j).2.2.2 = true ∧ meth.name = "<init>" ∧ (T j).1 = own)) (hn : narrow (ft j) (mm_v (mm_A b z) v) = mm_v (mm_A b z) v) (hfit : fits (ft j) (mm_v (mm_A b z) v) = true) (hl : j < fs.length) (hdg : decode cc pc = .ok (.putfield index, 3))
    (k : ∀ H' i, mm_R D cl cT b z eX s (g.set q (.inr (ci, fs.set j v))) H' (locs ++ [⟨mm_A b z (q + 1), i⟩]) → W p l e R s m args below meth c H' (locs ++ [⟨mm_A b z (q + 1), i⟩]) cells slots Q (F0 m (pc + 3) L rest)) : W p l e R s m args below meth c H locs cells slots Q (F0 m pc L (mm_v (mm_A b z) v :: .ref (mm_A b z (q + 1)) :: rest)) := by
  have hap := va_apart (own := own) hts hin ft hty hnm hK hc
  obtain ⟨r, h1, cell, q1, q2, q3, q4⟩ := hR.2.1 q _ (mm_at hR hq)
  have hr : r = (C, T, N) := Option.some.inj (h1.symm.trans hc)
  subst hr
  obtain ⟨hS, hfc, kC, hkC, hkind⟩ := hK.1 ci _ hc
  obtain ⟨cf, kf, fi, f, hi, hsl⟩ := hS j hj
  have hst := (u_facts hfc hkC (u_lays hts hin hj) hi).1
  have hlen : j < (fs.map (mm_v (mm_A b z))).length := by rw [List.length_map]; exact hl
  have fin : ∀ H' : Heap, H'[mm_A b z (q + 1)]? = some (cell.setSlot (D.2 ci j) (mm_v (mm_A b z) v)) → H'.size = H.size → (∀ x : Nat, x ≠ mm_A b z (q + 1) → H'[x]? = H[x]?) → W p l e R s m args below meth c H' (locs ++ [⟨mm_A b z (q + 1), D.2 ci j⟩]) cells slots Q (F0 m (pc + 3) L rest) := by
    intro H' e1 e2 e3
    refine k H' _ (hR.put hq ?_ e2 e3 _)
    refine ⟨_, hc, t_OB.to (V := updV (vp_V (fs.map (mm_v (mm_A b z)))) j (mm_v (mm_A b z) v)) ⟨_, e1, q2, q3, t_set q4 hap hj _⟩ (fun i _ => ?_)⟩
    rw [vp_updV_set hlen, ← List.map_set]
  have hlay := hts _ (hin _ (u_in_lay hj))
  unfold u_lay at hlay
  rcases hfin with hf | ⟨hf, hin2, hdecl⟩
  · rw [if_neg (by rw [hf]; decide)] at hlay
    have h6 := u_store hfc hkC hkind hlay hi (hty j hj) hn hfit
    refine W.putK hx hb (f := f) ⟨hown, hts _ hlink, ⟨_, _, _, hi⟩, hst⟩ (by rw [q2]; exact h6) q1 q3 (by rw [hsl]; exact k2_hasslot (q4 j hj)) rfl rfl hdg fun H' e1 e2 e3 => ?_
    rw [hsl] at e1 ⊢
    exact fin H' e1 e2 e3
  · rw [if_pos hf] at hlay
    have hcf : m.cls = cf := by
      obtain ⟨_, _, c', _, _, _, -, -, hf', -, -, -, hown2, -⟩ := Cond.laysFinal_spec hlay
      have e1 : c' = cf := by have := hi.symm.trans hf'; simp at this; exact this.1.symm
      rw [hdecl] at hown2
      rw [← e1]; exact Option.some.inj (hown.symm.trans hown2)
    have h6 := u_fits hfc hkC hkind (Or.inr hlay) hi (hty j hj) hn hfit
    refine W.putFinK hx hb hown (hts _ hlink) hi hst hcf hin2 (by rw [q2]; exact h6) q1 q3 (by rw [hsl]; exact k2_hasslot (q4 j hj)) rfl rfl hdg fun H' e1 e2 e3 => ?_
    rw [hsl] at e1 ⊢
    exact fin H' e1 e2 e3
theorem mm_ty (hK : va_K D cl (mm_T cT 0 tyl) s) {t : Nat} {ty : FieldType} (h : tyl[t]? = some ty) : (mm_T cT 0 tyl)[t]? = some (cT t, ty) := by
  rw [mm_T_get, h]
  simp
theorem mm_iast_ok (hx : p.tables.exec = Jvm.exec) (hb : c.code = cc) {q t n : Nat} {f : Nat → Int32} {i x : Int32} (hK : va_K D cl (mm_T cT 0 tyl) s) (hR : mm_R D cl cT b z eX s g H locs) (hq : g[q]? = some (.inl (t, n, .inl f))) (ht : tyl[t]? = some .int) (hin : vp_in i n) (hdg : decode cc pc = .ok (.iastore, 1))
    (k : ∀ H' j, mm_R D cl cT b z eX s (g.set q (.inl (t, n, .inl (upd f i.toNatClampNeg x)))) H' (locs ++ [⟨mm_A b z (q + 1), j⟩]) → W p l e R s m args below meth c H' (locs ++ [⟨mm_A b z (q + 1), j⟩]) cells slots Q (F0 m (pc + 1) L rest)) : W p l e R s m args below meth c H locs cells slots Q (F0 m pc L (.int x :: .int i :: .ref (mm_A b z (q + 1)) :: rest)) := by
  refine W.iast hx hb (hR.2.1 q _ (mm_at hR hq)) ((hK.2 t _ (mm_ty hK ht)).1 n (fun j => .int (f j))) (fun q => by cases q) (by show ¬ (i < 0 ∨ (arrV _ _ _).slots.size ≤ _); rw [arrV_size]; exact hin) rfl rfl hdg fun H1 e z oq => k H1 _ (hR.put hq ?_ z oq _)
  show H1[_]? = some (vp_cell _ _)
  rw [e]
  dsimp only
  rw [mm_cell_i, mm_cell_i, arrV_store]
  congr 2
  funext w
  by_cases hw : w = i.toNatClampNeg
  · subst hw; simp [updV, upd]
  · simp [updV, upd, hw]
theorem mm_zast_ok (hx : p.tables.exec = Jvm.exec) (hb : c.code = cc) {q t n : Nat} {f : Nat → Int32} {i x : Int32} (hK : va_K D cl (mm_T cT 0 tyl) s) (hR : mm_R D cl cT b z eX s g H locs) (hq : g[q]? = some (.inl (t, n, .inl f))) (ht : tyl[t]? = some .boolean) (hin : vp_in i n) (hdg : decode cc pc = .ok (.bastore, 1))
    (k : ∀ H' j, mm_R D cl cT b z eX s (g.set q (.inl (t, n, .inl (upd f i.toNatClampNeg (vp_nar .boolean x))))) H' (locs ++ [⟨mm_A b z (q + 1), j⟩]) → W p l e R s m args below meth c H' (locs ++ [⟨mm_A b z (q + 1), j⟩]) cells slots Q (F0 m (pc + 1) L rest)) : W p l e R s m args below meth c H locs cells slots Q (F0 m pc L (.int x :: .int i :: .ref (mm_A b z (q + 1)) :: rest)) := by
  refine W.zast hx hb (hR.2.1 q _ (mm_at hR hq)) ((hK.2 t _ (mm_ty hK ht)).1 n (fun j => .int (f j))) (fun q => by cases q) (by show ¬ (i < 0 ∨ (arrV _ _ _).slots.size ≤ _); rw [arrV_size]; exact hin) rfl rfl hdg fun H1 e z oq => k H1 _ (hR.put hq ?_ z oq _)
  show H1[_]? = some (vp_cell _ _)
  rw [e]
  dsimp only
  rw [mm_cell_i, mm_cell_i, arrV_store]
  congr 2
  funext w
  by_cases hw : w = i.toNatClampNeg
  · subst hw; simp [updV, upd, vp_nar]; try rfl
  · simp [updV, upd, hw]
theorem mm_cast_ok (hx : p.tables.exec = Jvm.exec) (hb : c.code = cc) {q t n : Nat} {f : Nat → Int32} {i x : Int32} (hK : va_K D cl (mm_T cT 0 tyl) s) (hR : mm_R D cl cT b z eX s g H locs) (hq : g[q]? = some (.inl (t, n, .inl f))) (ht : tyl[t]? = some .char) (hin : vp_in i n) (hdg : decode cc pc = .ok (.castore, 1))
    (k : ∀ H' j, mm_R D cl cT b z eX s (g.set q (.inl (t, n, .inl (upd f i.toNatClampNeg (vp_nar .char x))))) H' (locs ++ [⟨mm_A b z (q + 1), j⟩]) → W p l e R s m args below meth c H' (locs ++ [⟨mm_A b z (q + 1), j⟩]) cells slots Q (F0 m (pc + 1) L rest)) : W p l e R s m args below meth c H locs cells slots Q (F0 m pc L (.int x :: .int i :: .ref (mm_A b z (q + 1)) :: rest)) := by
  refine W.cast hx hb (hR.2.1 q _ (mm_at hR hq)) ((hK.2 t _ (mm_ty hK ht)).1 n (fun j => .int (f j))) (fun q => by cases q) (by show ¬ (i < 0 ∨ (arrV _ _ _).slots.size ≤ _); rw [arrV_size]; exact hin) rfl rfl hdg fun H1 e z oq => k H1 _ (hR.put hq ?_ z oq _)
  show H1[_]? = some (vp_cell _ _)
  rw [e]
  dsimp only
  rw [mm_cell_i, mm_cell_i, arrV_store]
  congr 2
  funext w
  by_cases hw : w = i.toNatClampNeg
  · subst hw; simp [updV, upd, vp_nar]; try rfl
  · simp [updV, upd, hw]
theorem mm_last_ok (hx : p.tables.exec = Jvm.exec) (hb : c.code = cc) {q t n : Nat} {f : Nat → Int64} {i : Int32} {x : Int64} (hK : va_K D cl (mm_T cT 0 tyl) s) (hR : mm_R D cl cT b z eX s g H locs) (hq : g[q]? = some (.inl (t, n, .inr (.inl f)))) (ht : tyl[t]? = some .long) (hin : vp_in i n) (hdg : decode cc pc = .ok (.lastore, 1))
    (k : ∀ H' j, mm_R D cl cT b z eX s (g.set q (.inl (t, n, .inr (.inl (vp_updL f i.toNatClampNeg x))))) H' (locs ++ [⟨mm_A b z (q + 1), j⟩]) → W p l e R s m args below meth c H' (locs ++ [⟨mm_A b z (q + 1), j⟩]) cells slots Q (F0 m (pc + 1) L rest)) : W p l e R s m args below meth c H locs cells slots Q (F0 m pc L (.long x :: .int i :: .ref (mm_A b z (q + 1)) :: rest)) := by
  refine W.last hx hb (hR.2.1 q _ (mm_at hR hq)) ((hK.2 t _ (mm_ty hK ht)).1 n (fun j => .long (f j))) (fun q => by cases q) (by show ¬ (i < 0 ∨ (arrV _ _ _).slots.size ≤ _); rw [arrV_size]; exact hin) rfl rfl hdg fun H1 e z oq => k H1 _ (hR.put hq ?_ z oq _)
  show H1[_]? = some (vp_cell _ _)
  rw [e]
  dsimp only
  rw [mm_cell_l, mm_cell_l, arrV_store]
  congr 2
  funext w
  by_cases hw : w = i.toNatClampNeg
  · subst hw; simp [updV, vp_updL]
  · simp [updV, vp_updL, hw]
theorem mm_aast_ok (hx : p.tables.exec = Jvm.exec) (hb : c.code = cc) {q q2 t n ci : Nat} {r : vw_C} {vs : List Value} {f : Nat → Option Nat} {i : Int32} (hK : va_K D cl (mm_T cT 0 tyl) s) (hR : mm_R D cl cT b z eX s g H locs) (hq : g[q]? = some (.inl (t, n, .inr (.inr (.inr (.inr f)))))) (ht : tyl[t]? = some (.object r.1)) (hv : g[q2]? = some (.inr (ci, vs))) (hc : cl[ci]? = some r) (hin : vp_in i n) (hdg : decode cc pc = .ok (.aastore, 1))
    (k : ∀ H' j, mm_R D cl cT b z eX s (g.set q (.inl (t, n, .inr (.inr (.inr (.inr (va_up f i.toNatClampNeg (some (q2 + 1))))))))) H' (locs ++ [⟨mm_A b z (q + 1), j⟩]) → W p l e R s m args below meth c H' (locs ++ [⟨mm_A b z (q + 1), j⟩]) cells slots Q (F0 m (pc + 1) L rest)) : W p l e R s m args below meth c H locs cells slots Q (F0 m pc L (.ref (mm_A b z (q2 + 1)) :: .int i :: .ref (mm_A b z (q + 1)) :: rest)) := by
  have hlt : i.toNatClampNeg < n := Nat.not_le.mp fun q => hin (Or.inr q)
  have h0 : ¬ i < 0 := fun q => hin (Or.inl q)
  obtain ⟨r', hr', cellV, g1, g2, g3, -⟩ := hR.2.1 q2 _ (mm_at hR hv)
  have hcls := (hK.1 ci r hc).2
  obtain ⟨kA, comp, k1, k2, k3, -⟩ := (hK.2 t _ (mm_ty hK ht)).2
  have hcomp : comp = D.1 ci := Option.some.inj (k3.symm.trans hcls.1)
  subst hcomp
  obtain ⟨kC, hkC, -⟩ := hcls.2
  refine W.aast hx hb (hR.2.1 q _ (mm_at hR hq)) (fun q h => by cases h) (fun h => by cases h) k1 k2 rfl hkC ⟨h0, by show _ < (arrV _ _ _).slots.size; rw [arrV_size]; exact hlt⟩ g1 (fun q h => by rw [g3] at h; cases h) (by rw [g2]; exact hkC) (by rw [g2]; exact va_assign hcls) rfl rfl hdg fun H1 e z oq => k H1 _ (hR.put hq ?_ z oq _)
  show H1[_]? = some (vp_cell _ _)
  rw [e]
  dsimp only
  rw [mm_cell_q, mm_cell_q, arrV_store]
  congr 2
  funext w
  by_cases hw : w = i.toNatClampNeg
  · subst hw; simp [updV, va_up, va_rf]
  · simp [updV, va_up, hw]
theorem mm_overA {args : Array Value} {first s : State} {o : Option Outcome} {idx : List Nat} {t : FieldType} (h : (Cond.arrayOver (.array t)).holds args first o s idx = true) : ∃ comp c k, s.vm.findClass (FieldType.array t).toString = some comp ∧ s.vm.classes[c]? = some k ∧ k.kind = .array comp (.array t) ∧ s.vm.findClass ("[" ++ (FieldType.array t).toString) = some c := by
  simp only [Cond.holds, Cond.value, beq_iff_eq] at h
  cases hc : s.vm.findClass (FieldType.array t).toString with
  | none => simp [hc] at h
  | some comp =>
    simp only [hc, Option.bind_some, Option.bind_eq_some_iff, Option.map_eq_some_iff] at h
    obtain ⟨c, hi, k, hk, hb⟩ := h
    obtain ⟨hlt, hp, -⟩ := Array.findIdx?_eq_some_iff_getElem.mp hi
    have hkk : s.vm.classes[c] = k := (Array.getElem?_eq_some_iff.mp hk).2
    rw [hkk] at hp
    cases hkind : k.kind with
    | array component ty =>
      rw [hkind] at hb hp
      simp at hb hp
      exact ⟨comp, c, k, rfl, hk, by rw [hkind, hp, hb.1], hb.2⟩
    | _ => rw [hkind] at hb; simp at hb
theorem mm_aasA_ok (hx : p.tables.exec = Jvm.exec) (hb : c.code = cc) {q q2 t n n2 : Nat} {f : Nat → Option Nat} {f2 : Nat → Int32} {i : Int32} (hK : va_K D cl (mm_T cT 0 tyl) s) (hR : mm_R D cl cT b z eX s g H locs) (hq : g[q]? = some (.inl (t, n, .inr (.inr (.inr (.inr f)))))) (ht : tyl[t]? = some (.array .int)) (hv : g[q2]? = some (.inl (0, n2, .inl f2))) (ht0 : tyl[0]? = some .int) (hover : (Cond.arrayOver (.array .int)).before args s = true) (hin : vp_in i n) (hdg : decode cc pc = .ok (.aastore, 1))
    (k : ∀ H' j, mm_R D cl cT b z eX s (g.set q (.inl (t, n, .inr (.inr (.inr (.inr (va_up f i.toNatClampNeg (some (q2 + 1))))))))) H' (locs ++ [⟨mm_A b z (q + 1), j⟩]) → W p l e R s m args below meth c H' (locs ++ [⟨mm_A b z (q + 1), j⟩]) cells slots Q (F0 m (pc + 1) L rest)) : W p l e R s m args below meth c H locs cells slots Q (F0 m pc L (.ref (mm_A b z (q2 + 1)) :: .int i :: .ref (mm_A b z (q + 1)) :: rest)) := by
  have hlt : i.toNatClampNeg < n := Nat.not_le.mp fun q => hin (Or.inr q)
  have h0 : ¬ i < 0 := fun q => hin (Or.inl q)
  obtain ⟨comp, cc2, kA, o1, o2, o3, o4⟩ := mm_overA hover
  have e1 : s.vm.findClass ("[" ++ (FieldType.array .int).toString) = some (cT t) := (hK.2 t _ (mm_ty hK ht)).2
  have e2 : s.vm.findClass ("[" ++ FieldType.int.toString) = some (cT 0) := (hK.2 0 _ (mm_ty hK ht0)).2
  have e3 : cc2 = cT t := Option.some.inj (o4.symm.trans e1)
  subst e3
  have e4 : comp = cT 0 := Option.some.inj (o1.symm.trans e2)
  subst e4
  have g1 := hR.2.1 q2 _ (mm_at hR hv)
  have g1 : H[mm_A b z (q2 + 1)]? = some (vp_cell (cT 0) (mm_a (mm_A b z) (n2, .inl f2))) := g1
  obtain ⟨kC, hkC⟩ : ∃ kC, s.vm.classes[cT 0]? = some kC := by
    obtain ⟨-, k1, a2, -⟩ := (hK.2 0 _ (mm_ty hK ht0)).1 0 (fun _ => .null)
    exact ⟨k1, a2⟩
  refine W.aast hx hb (hR.2.1 q _ (mm_at hR hq)) (fun q h => by cases h) (fun h => by cases h) o2 o3 rfl hkC ⟨h0, by show _ < (arrV _ _ _).slots.size; rw [arrV_size]; exact hlt⟩ g1 (fun q h => by cases h) hkC (by show s.vm.assignable (cT 0) (cT 0) = true; unfold Vm.assignable; rw [Vm.assignableAux]; simp) rfl rfl hdg fun H1 e z oq => k H1 _ (hR.put hq ?_ z oq _)
  show H1[_]? = some (vp_cell _ _)
  rw [e]
  dsimp only
  rw [mm_cell_q, mm_cell_q, arrV_store]
  congr 1
  congr 1
  funext w
  by_cases hw : w = i.toNatClampNeg
  · subst hw; simp [updV, va_up, va_rf]
  · simp [updV, va_up, hw]
theorem mm_new_ok (hx : p.tables.exec = Jvm.exec) (hb : c.code = cc) {own C : String} {T : u_T} {N ci index : Nat} {dv : List Value} {ft : Nat → FieldType} (hts : ∀ w ∈ TB, w.before args s = true) (hin : ∀ w ∈ u_ws C T N, w ∈ TB) (hown : s.vm.findClass own = some m.cls) (hK : va_K D cl (mm_T cT 0 tyl) s) (hR : mm_R D cl cT b z eX s g H locs)
    (hc : cl[ci]? = some (C, T, N)) (hty : ∀ k, k < N → parseFieldDescriptor (T k).2.2.1 = some (ft k)) (hcl : Cond.classLink own index C ∈ TB) (hinst : Cond.instantiable C N ∈ TB) (hini : Cond.initialized C ∈ TB) (hdv : ∀ j, j < N → defaultValue (ft j) = vp_V (dv.map (mm_v (mm_A b z))) j) (hl : g.length + 1 ≤ 1000000) (hcells : cells + 1 ≤ R.cells) (hslots : slots + N ≤ R.slots) (hdg : decode cc pc = .ok (.new index, 3))
    (k : ∀ H', mm_R D cl cT b z eX s (g ++ [.inr (ci, dv)]) H' locs → W p l e R s m args below meth c H' locs (cells + 1) (slots + N) Q (F0 m (pc + 3) L (.ref (mm_A b z (g.length + 1)) :: rest))) : W p l e R s m args below meth c H locs cells slots Q (F0 m pc L rest) := by
  have hKn := hK.1 ci _ hc
  have hA : mm_A b z (g.length + 1) = H.size := by rw [hR.1, mm_A_of (by omega)]
  refine W.newcK hx hb hown (hts _ hcl) (hts _ hinst) (hts _ hini) rfl hdg hcells hslots hKn.2.1 rfl fun H1 kC hkC e1 z1 o1 => ?_
  rw [hA] at k
  exact k H1 (hR.push ⟨_, hc, (u_born ft hts hin hKn hkC e1 hty).to hdv⟩ z1 o1 hl)
theorem mm_newa_ok (hx : p.tables.exec = Jvm.exec) (hb : c.code = cc) {at' : ArrayType} {t N : Nat} {a0 : vp_A} {n : Int32} (hts : ∀ w ∈ TB, w.before args s = true) (hK : va_K D cl (mm_T cT 0 tyl) s) (hR : mm_R D cl cT b z eX s g H locs)
    (ht : tyl[t]? = some (newarray.typeOf at')) (harr : Cond.arrayClass (newarray.typeOf at') ∈ TB) (ha : ∀ cA : ClassId, vp_cell cA (mm_a (mm_A b z) a0) = arrV cA N (fun _ => defaultValue (newarray.typeOf at'))) (hn : ¬ n < 0) (hN : n.toNatClampNeg = N) (hbytes : N * componentBytes (newarray.typeOf at') ≤ 536870912) (hl : g.length + 1 ≤ 1000000) (hcells : cells + 1 ≤ R.cells) (hslots : slots + N ≤ R.slots) (hdg : decode cc pc = .ok (.newarray at', 2))
    (k : ∀ H', mm_R D cl cT b z eX s (g ++ [.inl (t, a0)]) H' locs → W p l e R s m args below meth c H' locs (cells + 1) (slots + N) Q (F0 m (pc + 2) L (.ref (mm_A b z (g.length + 1)) :: rest))) : W p l e R s m args below meth c H locs cells slots Q (F0 m pc L (.int n :: rest)) := by
  have hA : mm_A b z (g.length + 1) = H.size := by rw [hR.1, mm_A_of (by omega)]
  refine va_newaK hx hb (hts _ harr) rfl hdg rfl hn hN hbytes hcells hslots rfl fun H1 cA e1 z1 o1 hAr hNm => ?_
  rw [hA] at k
  have hcA : cA = cT t := by
    have h := (hK.2 t _ (mm_ty hK ht)).2
    have h2 : s.vm.findClass ("[" ++ (newarray.typeOf at').toString) = some (cT t) := by cases at' <;> exact h
    exact Option.some.inj (hNm.symm.trans h2)
  subst hcA
  refine k H1 (hR.push ?_ z1 o1 hl)
  show H1[H.size]? = some (vp_cell _ _)
  rw [ha]
  exact e1
theorem mm_newq_ok (hx : p.tables.exec = Jvm.exec) (hb : c.code = cc) {own C : String} {index t N : Nat} {n : Int32} (hts : ∀ w ∈ TB, w.before args s = true) (hown : s.vm.findClass own = some m.cls) (hK : va_K D cl (mm_T cT 0 tyl) s) (hR : mm_R D cl cT b z eX s g H locs)
    (ht : tyl[t]? = some (.object C)) (hclink : Cond.classLink own index C ∈ TB) (hover : Cond.arrayOver (.object C) ∈ TB) (hn : ¬ n < 0) (hN : n.toNatClampNeg = N) (hbytes : N * 4 ≤ 536870912) (hl : g.length + 1 ≤ 1000000) (hcells : cells + 1 ≤ R.cells) (hslots : slots + N ≤ R.slots) (hdg : decode cc pc = .ok (.anewarray index, 3))
    (k : ∀ H', mm_R D cl cT b z eX s (g ++ [.inl (t, N, .inr (.inr (.inr (.inr (fun _ => none)))))]) H' locs → W p l e R s m args below meth c H' locs (cells + 1) (slots + N) Q (F0 m (pc + 3) L (.ref (mm_A b z (g.length + 1)) :: rest))) : W p l e R s m args below meth c H locs cells slots Q (F0 m pc L (.int n :: rest)) := by
  have hA : mm_A b z (g.length + 1) = H.size := by rw [hR.1, mm_A_of (by omega)]
  subst hN
  refine W.anew hx hb hown (hts _ hclink) (hts _ hover) rfl hdg rfl hn hbytes hcells hslots fun cA kA comp f1 f2 f3 f4 => ?_
  rw [hA] at k
  have hcA : cA = cT t := by
    obtain ⟨kA', comp', -, -, -, h2⟩ := (hK.2 t _ (mm_ty hK ht)).2
    exact Option.some.inj (f1.symm.trans h2)
  subst hcA
  refine k _ (hR.push ?_ (by rw [Array.size_push]) (fun q hq => by rw [Array.getElem?_push, if_neg (Nat.ne_of_lt hq)]) hl)
  show (H.push _)[H.size]? = some (vp_cell (cT t) (mm_a (mm_A b z) (_, .inr (.inr (.inr (.inr _))))))
  rw [Array.getElem?_push_size, mm_cell_q, arrV_new]
  rfl
theorem mm_newqa_ok (hx : p.tables.exec = Jvm.exec) (hb : c.code = cc) {own : String} {y : FieldType} {index t N : Nat} {n : Int32} (hts : ∀ w ∈ TB, w.before args s = true) (hown : s.vm.findClass own = some m.cls) (hK : va_K D cl (mm_T cT 0 tyl) s) (hR : mm_R D cl cT b z eX s g H locs)
    (ht : tyl[t]? = some (.array y)) (hclink : Cond.classLink own index (FieldType.array y).toString ∈ TB) (hover : Cond.arrayOver (.array y) ∈ TB) (hn : ¬ n < 0) (hN : n.toNatClampNeg = N) (hbytes : N * 4 ≤ 536870912) (hl : g.length + 1 ≤ 1000000) (hcells : cells + 1 ≤ R.cells) (hslots : slots + N ≤ R.slots) (hdg : decode cc pc = .ok (.anewarray index, 3))
    (k : ∀ H', mm_R D cl cT b z eX s (g ++ [.inl (t, N, .inr (.inr (.inr (.inr (fun _ => none)))))]) H' locs → W p l e R s m args below meth c H' locs (cells + 1) (slots + N) Q (F0 m (pc + 3) L (.ref (mm_A b z (g.length + 1)) :: rest))) : W p l e R s m args below meth c H locs cells slots Q (F0 m pc L (.int n :: rest)) := by
  have hA : mm_A b z (g.length + 1) = H.size := by rw [hR.1, mm_A_of (by omega)]
  subst hN
  refine W.anewA hx hb hown (hts _ hclink) (hts _ hover) rfl hdg rfl hn hbytes hcells hslots fun cA kA comp f1 f2 f3 f4 => ?_
  rw [hA] at k
  have hcA : cA = cT t := by
    have h2 := (hK.2 t _ (mm_ty hK ht)).2
    exact Option.some.inj (f1.symm.trans h2)
  subst hcA
  refine k _ (hR.push ?_ (by rw [Array.size_push]) (fun q hq => by rw [Array.getElem?_push, if_neg (Nat.ne_of_lt hq)]) hl)
  show (H.push _)[H.size]? = some (vp_cell (cT t) (mm_a (mm_A b z) (_, .inr (.inr (.inr (.inr _))))))
  rw [Array.getElem?_push_size, mm_cell_q, arrV_new]
  rfl
end MmCell

/-! THE LAW's START: what the small machine wants of it. -/
section MmStart
variable {s : State} {a0 : Array Value}
theorem mm_tyC {ty : FieldType} (h : (Cond.arrayClass ty).before a0 s = true) (hr : ∀ cA, s.vm.findClass ("[" ++ ty.toString) = some cA → va_RA s cA ty) : ∃ cA : ClassId, ArrOfT s cA ty ∧ va_RA s cA ty := by
  obtain ⟨c, k, comp, h1, h2, h3⟩ := Cond.arrayClass_spec h
  exact ⟨c, fun n z => ⟨(fun k h => by cases h), k, h2, comp, h3⟩, hr c h1⟩
theorem mm_tyO {C : String} (h : (Cond.arrayOver (.object C)).before a0 s = true) : ∃ cA : ClassId, ArrOfT s cA (.object C) ∧ va_RA s cA (.object C) := by
  obtain ⟨comp, c, k, h1, -, h3, h4, h5⟩ := Cond.arrayOver_spec h
  exact ⟨c, fun n z => ⟨(fun k h => by cases h), k, h3, comp, h4⟩, k, comp, h3, h4, h1, h5⟩
theorem mm_tyA {y : FieldType} (h : (Cond.arrayOver (.array y)).before a0 s = true) : ∃ cA : ClassId, ArrOfT s cA (.array y) ∧ va_RA s cA (.array y) := by
  obtain ⟨comp, c, k, h1, -, h3, h4, h5⟩ := arrayOverA_spec h
  exact ⟨c, fun n z => ⟨(fun k h => by cases h), k, h3, comp, h4⟩, h5⟩
theorem tb_tys (hts : ∀ w ∈ tb_TB, w.before a0 s = true) : ∀ (t : Nat), ∃ cA : ClassId, ∀ y, tb_tyl[t]? = some y → ArrOfT s cA y ∧ va_RA s cA y := by
  intro t
  have key : ∀ y, tb_tyl[t]? = some y → ∃ cA : ClassId, ArrOfT s cA y ∧ va_RA s cA y := by
    intro y hy
    have ht : t < 8 := (List.getElem?_eq_some_iff.mp hy).1
    have : t = 0 ∨ t = 1 ∨ t = 2 ∨ t = 3 ∨ t = 4 ∨ t = 5 ∨ t = 6 ∨ t = 7 := by omega
    rcases this with rfl | rfl | rfl | rfl | rfl | rfl | rfl | rfl
    · cases hy; exact mm_tyC (hts _ tb_ac.1) (fun cA h => h)
    · cases hy; exact mm_tyC (hts _ tb_ac.2.1) (fun cA h => h)
    · cases hy; exact mm_tyC (hts _ tb_ac.2.2.1) (fun cA h => h)
    · cases hy; exact mm_tyC (hts _ tb_ac.2.2.2) (fun cA h => h)
    · cases hy; exact mm_tyO (hts _ tb_over.1)
    · cases hy; exact mm_tyO (hts _ tb_over.2.1)
    · cases hy; exact mm_tyO (hts _ tb_over.2.2.1)
    · cases hy; exact mm_tyA (hts _ tb_over.2.2.2)
  cases ht : tb_tyl[t]? with
  | none => exact ⟨0, fun y hy => by cases hy⟩
  | some y =>
    obtain ⟨cA, h⟩ := key y ht
    exact ⟨cA, fun y' hy => by cases hy; exact h⟩
theorem tb_kns (hts : ∀ w ∈ tb_TB, w.before a0 s = true) : ∀ (c : Nat), ∃ p : ClassId × (Nat → Nat), ∀ q, tb_cl[c]? = some q → u_Kn s q.1 q.2.1 q.2.2 p.1 p.2 := by
  intro c
  cases hc : tb_cl[c]? with
  | none => exact ⟨(0, fun _ => 0), fun q hq => by cases hq⟩
  | some r =>
    obtain ⟨C, T, N⟩ := r
    obtain ⟨n, hn⟩ := mm_all1P_ok tb_inst hc
    obtain ⟨cC, iS, h⟩ := u_known (C := C) (T := T) (N := N) (n := n) hts (tb_ok2.1 c C T N hc).1 (hts _ hn)
    exact ⟨(cC, iS), fun q hq => by cases hq; exact h⟩
theorem tb_flat : ∃ i1 i2 i3 i4 : Nat, (flatC (Jvm.Cond.and given_1 narrow_1))[i1]? = some (.isRef (.static Bundle.tN "UNASSIGNED_STACK" Bundle.steD)) ∧ (flatC (Jvm.Cond.and given_1 narrow_1))[i2]? = some (.isRef (.static Bundle.tN "SUPPRESSED_SENTINEL" Bundle.listD)) ∧ (flatC (Jvm.Cond.and given_1 narrow_1))[i3]? = some (.not (.castable "java/lang/IllegalStateException" "java/lang/IllegalArgumentException")) ∧ (flatC (Jvm.Cond.and given_1 narrow_1))[i4]? = some (.not (.castable "java/lang/IllegalArgumentException" "java/lang/IllegalStateException")) := ⟨24, 25, 59, 47, rfl, rfl, rfl, rfl⟩
theorem tb_start (hl : ∀ w ∈ lw_tbl, w.before a0 s = true) (hgv : (Jvm.Cond.and given_1 narrow_1).before a0 s = true) : ∃ (D : va_G) (cT : Nat → Nat), mm_s0 tb_TB tb_SB tb_cl tb_tyl D cT tb_X a0 s := by
  have hts : ∀ w ∈ tb_TB, w.before a0 s = true := fun w hw => hl w (List.mem_filter.mp hw).1
  have hfl := flat_of_before _ hgv
  obtain ⟨i1, i2, i3, i4, f1, f2, f3, f4⟩ := tb_flat
  obtain ⟨cT, hcT⟩ := Classical.axiomOfChoice (tb_tys hts)
  obtain ⟨pD, hpD⟩ := Classical.axiomOfChoice (tb_kns hts)
  refine ⟨(fun c => (pD c).1, fun c => (pD c).2), cT, fun w hw => ⟨(List.mem_filter.mp hw).2, hts w hw⟩, fun q hq => hl _ (mm_allL_mem tb_sb q hq), ⟨hts _ tb_ls.1, hfl _ (List.mem_of_getElem? f1), hts _ tb_ls.2, hfl _ (List.mem_of_getElem? f2)⟩, ⟨fun c q hq => hpD c q hq, fun k q hq => ?_⟩, ?_⟩
  · rw [mm_T_get] at hq
    obtain ⟨y, hy, rfl⟩ := Option.map_eq_some_iff.mp hq
    dsimp only
    rw [Nat.zero_add]
    exact hcT k y hy
  · have e13 : s.vm.findClass "java/lang/IllegalStateException" = some (pD 13).1 := (hpD 13 ("java/lang/IllegalStateException", tb_TX, 0) rfl).2.1
    have e14 : s.vm.findClass "java/lang/IllegalArgumentException" = some (pD 14).1 := (hpD 14 ("java/lang/IllegalArgumentException", tb_TX, 0) rfl).2.1
    obtain ⟨x1, y1, a1, b1, c1⟩ := Cond.castable_spec (hts _ tb_cast.1)
    obtain ⟨x2, y2, a2, b2, c2⟩ := Cond.castable_spec (hts _ tb_cast.2)
    obtain ⟨x3, y3, a3, b3, c3⟩ := va_Nc.of (hfl _ (List.mem_of_getElem? f3))
    obtain ⟨x4, y4, a4, b4, c4⟩ := va_Nc.of (hfl _ (List.mem_of_getElem? f4))
    cases a1.symm.trans e13; cases b1.symm.trans e13
    cases a2.symm.trans e14; cases b2.symm.trans e14
    cases a3.symm.trans e13; cases b3.symm.trans e14
    cases a4.symm.trans e14; cases b4.symm.trans e13
    rintro ci cj (rfl | rfl) (rfl | rfl)
    · exact ⟨fun _ => rfl, fun _ => c1⟩
    · exact ⟨fun h => absurd (c3.symm.trans h) (by decide), fun h => by cases h⟩
    · exact ⟨fun h => absurd (c4.symm.trans h) (by decide), fun h => by cases h⟩
    · exact ⟨fun _ => rfl, fun _ => c2⟩
end MmStart

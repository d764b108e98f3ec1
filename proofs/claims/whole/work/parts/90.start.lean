/-! THE LAW's START: what the small machine wants of it. -/
section MmStart
variable {s : State} {a0 : Array Value}
theorem mm_tyC {ty : FieldType} (h : (Cond.arrayClass ty).before a0 s = true) (hr : ∀ cA, s.vm.findClass ("[" ++ ty.toString) = some cA → va_RA s cA ty) : ∃ cA : ClassId, ArrOfT s cA ty ∧ va_RA s cA ty := by
  obtain ⟨c, k, comp, h1, h2, h3⟩ := Cond.arrayClass_spec h
  exact ⟨c, fun n z => ⟨(fun k h => by cases h), k, h2, comp, h3⟩, hr c h1⟩
theorem mm_tyO {C : String} (h : (Cond.arrayOver (.object C)).before a0 s = true) : ∃ cA : ClassId, ArrOfT s cA (.object C) ∧ va_RA s cA (.object C) := by
  obtain ⟨comp, c, k, h1, -, h3, h4, h5⟩ := Cond.arrayOver_spec h
  exact ⟨c, fun n z => ⟨(fun k h => by cases h), k, h3, comp, h4⟩, k, comp, h3, h4, h1, h5⟩
theorem mm_tyA {y : FieldType} (h : (Cond.arrayOver (.array y)).before a0 s = true) : ∃ cA : ClassId, ArrOfT s cA (.array y) ∧ va_RA s cA (.array y) := by
  obtain ⟨comp, c, k, h1, h3, h4, h5⟩ := mm_overA h
  exact ⟨c, fun n z => ⟨(fun k h => by cases h), k, h3, comp, h4⟩, h5⟩
theorem tb_tys (hts : ∀ w ∈ tb_TB, w.before a0 s = true) : ∀ (t : Nat), ∃ cA : ClassId, ∀ y, tb_tyl[t]? = some y → ArrOfT s cA y ∧ va_RA s cA y := by
  intro t
  have key : ∀ y, tb_tyl[t]? = some y → ∃ cA : ClassId, ArrOfT s cA y ∧ va_RA s cA y := by
    intro y hy
    have ht : t < 8 := (List.getElem?_eq_some_iff.mp hy).1
    have : t = 0 ∨ t = 1 ∨ t = 2 ∨ t = 3 ∨ t = 4 ∨ t = 5 ∨ t = 6 ∨ t = 7 := by omega
    rcases this with rfl | rfl | rfl | rfl | rfl | rfl | rfl | rfl
    · cases hy; exact mm_tyC (hts _ tb_ac.1) (fun cA h => h)
    · cases hy; exact mm_tyC (hts _ tb_ac.2.1) (fun cA h => h)
    · cases hy; exact mm_tyC (hts _ tb_ac.2.2.1) (fun cA h => h)
    · cases hy; exact mm_tyC (hts _ tb_ac.2.2.2) (fun cA h => h)
    · cases hy; exact mm_tyO (hts _ tb_over.1)
    · cases hy; exact mm_tyO (hts _ tb_over.2.1)
    · cases hy; exact mm_tyO (hts _ tb_over.2.2.1)
    · cases hy; exact mm_tyA (hts _ tb_over.2.2.2)
  cases ht : tb_tyl[t]? with
  | none => exact ⟨0, fun y hy => by cases hy⟩
  | some y =>
    obtain ⟨cA, h⟩ := key y ht
    exact ⟨cA, fun y' hy => by cases hy; exact h⟩
theorem tb_kns (hts : ∀ w ∈ tb_TB, w.before a0 s = true) : ∀ (c : Nat), ∃ p : ClassId × (Nat → Nat), ∀ q, tb_cl[c]? = some q → u_Kn s q.1 q.2.1 q.2.2 p.1 p.2 := by
  intro c
  cases hc : tb_cl[c]? with
  | none => exact ⟨(0, fun _ => 0), fun q hq => by cases hq⟩
  | some r =>
    obtain ⟨C, T, N⟩ := r
    obtain ⟨n, hn⟩ := mm_all1P_ok tb_inst hc
    obtain ⟨cC, iS, h⟩ := u_known (C := C) (T := T) (N := N) (n := n) hts (tb_ok2.1 c C T N hc).1 (hts _ hn)
    exact ⟨(cC, iS), fun q hq => by cases hq; exact h⟩
theorem tb_flat : ∃ i1 i2 i3 i4 : Nat, (flatC (Jvm.Cond.and given_1 narrow_1))[i1]? = some (.isRef (.static Bundle.tN "UNASSIGNED_STACK" Bundle.steD)) ∧ (flatC (Jvm.Cond.and given_1 narrow_1))[i2]? = some (.isRef (.static Bundle.tN "SUPPRESSED_SENTINEL" Bundle.listD)) ∧ (flatC (Jvm.Cond.and given_1 narrow_1))[i3]? = some (.not (.castable "java/lang/IllegalStateException" "java/lang/IllegalArgumentException")) ∧ (flatC (Jvm.Cond.and given_1 narrow_1))[i4]? = some (.not (.castable "java/lang/IllegalArgumentException" "java/lang/IllegalStateException")) := ⟨24, 25, 59, 47, rfl, rfl, rfl, rfl⟩
theorem tb_start (hl : ∀ w ∈ lw_tbl, w.before a0 s = true) (hgv : (Jvm.Cond.and given_1 narrow_1).before a0 s = true) : ∃ (D : va_G) (cT : Nat → Nat), mm_s0 tb_TB tb_SB tb_cl tb_tyl D cT tb_X a0 s := by
  have hts : ∀ w ∈ tb_TB, w.before a0 s = true := fun w hw => hl w (List.mem_filter.mp hw).1
  have hfl := flat_of_before _ hgv
  obtain ⟨i1, i2, i3, i4, f1, f2, f3, f4⟩ := tb_flat
  obtain ⟨cT, hcT⟩ := Classical.axiomOfChoice (tb_tys hts)
  obtain ⟨pD, hpD⟩ := Classical.axiomOfChoice (tb_kns hts)
  refine ⟨(fun c => (pD c).1, fun c => (pD c).2), cT, fun w hw => ⟨(List.mem_filter.mp hw).2, hts w hw⟩, fun q hq => hl _ (mm_allL_mem tb_sb q hq), ⟨hts _ tb_ls.1, hfl _ (List.mem_of_getElem? f1), hts _ tb_ls.2, hfl _ (List.mem_of_getElem? f2)⟩, ⟨fun c q hq => hpD c q hq, fun k q hq => ?_⟩, ?_⟩
  · rw [mm_T_get] at hq
    obtain ⟨y, hy, rfl⟩ := Option.map_eq_some_iff.mp hq
    dsimp only
    rw [Nat.zero_add]
    exact hcT k y hy
  · have e13 : s.vm.findClass "java/lang/IllegalStateException" = some (pD 13).1 := (hpD 13 ("java/lang/IllegalStateException", tb_TX, 0) rfl).2.1
    have e14 : s.vm.findClass "java/lang/IllegalArgumentException" = some (pD 14).1 := (hpD 14 ("java/lang/IllegalArgumentException", tb_TX, 0) rfl).2.1
    obtain ⟨x1, y1, a1, b1, c1⟩ := Cond.castable_spec (hts _ tb_cast.1)
    obtain ⟨x2, y2, a2, b2, c2⟩ := Cond.castable_spec (hts _ tb_cast.2)
    obtain ⟨x3, y3, a3, b3, c3⟩ := va_Nc.of (hfl _ (List.mem_of_getElem? f3))
    obtain ⟨x4, y4, a4, b4, c4⟩ := va_Nc.of (hfl _ (List.mem_of_getElem? f4))
    cases a1.symm.trans e13; cases b1.symm.trans e13
    cases a2.symm.trans e14; cases b2.symm.trans e14
    cases a3.symm.trans e13; cases b3.symm.trans e14
    cases a4.symm.trans e14; cases b4.symm.trans e13
    rintro ci cj (rfl | rfl) (rfl | rfl)
    · exact ⟨fun _ => rfl, fun _ => c1⟩
    · exact ⟨fun h => absurd (c3.symm.trans h) (by decide), fun h => by cases h⟩
    · exact ⟨fun h => absurd (c4.symm.trans h) (by decide), fun h => by cases h⟩
    · exact ⟨fun _ => rfl, fun _ => c2⟩
def tb_NN : List Int32 := [6830, 9684, 18935, 12468, 302, 294, 663726, 176741, 5572, 12462, 14519, 16052]
def tb_CO : List Int32 := [3, 4, -1, 0, 1]
def tb_BY : List Int32 := [123, 124, 125, 40, 41, 44, 58, 61, 59, 43, 45, 42, 47, 38, 60, 62, 91, 93]
def tb_eX (n : Nat) (xs : Nat → Int32) (j : Nat) : Nat × (Nat → Int32) := match j with
  | 0 => (n, xs)
  | 1 => (12, fun i => tb_NN.getD i 0)
  | 2 => (5, fun i => tb_CO.getD i 0)
  | 4 => (18, fun i => tb_BY.getD i 0)
  | _ => (0, fun _ => 0)
theorem tb_arr {C n : String} {N : Nat} {l : List Int32} (hN : N < 2 ^ 31) (hls : (Cond.laysStatic C n "[I").before a0 s = true) (hini : (Cond.initialized C).before a0 s = true) (harr : (Cond.arrayOf (.static C n "[I") .int).before a0 s = true) (hlen : (Cond.eq (.length (.static C n "[I")) (.int (Int32.ofNat N))).before a0 s = true) (hel : ∀ j, j < N → (Cond.eq (.elem (.static C n "[I") (.int (Int32.ofNat j))) (.int (l.getD j 0))).before a0 s = true) : ∃ t, va_Z C n "[I" (.ref t) (fun q => s.heap.size ≤ q) s s.heap ∧ va_T .int t N (fun i => .int (l.getD i 0)) (fun q => s.heap.size ≤ q) s s.heap := by
  have hA : ∀ a : Nat, a < s.heap.size → ¬ s.heap.size ≤ a := fun a h => Nat.not_le.mpr h
  obtain ⟨t, ht, hT⟩ := va_Tof (f := fun j => .int (l.getD j 0)) (A := fun q => s.heap.size ≤ q) hN harr (va_eqt hlen) (fun j hj => va_eqt (hel j hj)) hA
  exact ⟨t, va_Zof hls hini ht hA, hT⟩
set_option maxRecDepth 100000 in
theorem tb_ext (hl : ∀ w ∈ lw_tbl, w.before a0 s = true) (hgv : (Jvm.Cond.and given_1 narrow_1).before a0 s = true) (b0 n : Nat) (xs : Nat → Int32) : ∃ b : Nat → Nat, b 0 = b0 ∧ mm_ok4 tb_P tb_TB tb_cn tb_kb b s.heap.size (tb_eX n xs) s := by
  have hts : ∀ w ∈ tb_TB, w.before a0 s = true := fun w hw => hl w (List.mem_filter.mp hw).1
  have hfl := flat_of_before _ hgv
  have hA : ∀ a : Nat, a < s.heap.size → ¬ s.heap.size ≤ a := fun a h => Nat.not_le.mpr h
  obtain ⟨t1, z1, y1⟩ := tb_arr (C := "IndexedCompiler$Line") (n := "NO_NAMES") (N := 12) (l := tb_NN) (by decide) (hts _ tb_lx.1.1) (hts _ tb_lx.1.2) (hfl _ (List.mem_of_getElem? (i := 5) rfl)) (hfl _ (List.mem_of_getElem? (i := 6) rfl)) (fun j hj => by
    rcases (by omega : j = 0 ∨ j = 1 ∨ j = 2 ∨ j = 3 ∨ j = 4 ∨ j = 5 ∨ j = 6 ∨ j = 7 ∨ j = 8 ∨ j = 9 ∨ j = 10 ∨ j = 11) with rfl | rfl | rfl | rfl | rfl | rfl | rfl | rfl | rfl | rfl | rfl | rfl
    · exact hfl _ (List.mem_of_getElem? (i := 7) rfl)
    · exact hfl _ (List.mem_of_getElem? (i := 8) rfl)
    · exact hfl _ (List.mem_of_getElem? (i := 9) rfl)
    · exact hfl _ (List.mem_of_getElem? (i := 10) rfl)
    · exact hfl _ (List.mem_of_getElem? (i := 11) rfl)
    · exact hfl _ (List.mem_of_getElem? (i := 12) rfl)
    · exact hfl _ (List.mem_of_getElem? (i := 13) rfl)
    · exact hfl _ (List.mem_of_getElem? (i := 14) rfl)
    · exact hfl _ (List.mem_of_getElem? (i := 15) rfl)
    · exact hfl _ (List.mem_of_getElem? (i := 16) rfl)
    · exact hfl _ (List.mem_of_getElem? (i := 17) rfl)
    · exact hfl _ (List.mem_of_getElem? (i := 18) rfl))
  obtain ⟨t2, z2, y2⟩ := tb_arr (C := "IndexedCompiler$Checker") (n := "CONTRARY") (N := 5) (l := tb_CO) (by decide) (hts _ tb_lx.2.1.1) (hts _ tb_lx.2.1.2) (hfl _ (List.mem_of_getElem? (i := 27) rfl)) (hfl _ (List.mem_of_getElem? (i := 28) rfl)) (fun j hj => by
    rcases (by omega : j = 0 ∨ j = 1 ∨ j = 2 ∨ j = 3 ∨ j = 4) with rfl | rfl | rfl | rfl | rfl
    · exact hfl _ (List.mem_of_getElem? (i := 29) rfl)
    · exact hfl _ (List.mem_of_getElem? (i := 30) rfl)
    · exact hfl _ (List.mem_of_getElem? (i := 31) rfl)
    · exact hfl _ (List.mem_of_getElem? (i := 32) rfl)
    · exact hfl _ (List.mem_of_getElem? (i := 33) rfl))
  have z3 : va_Z "java/lang/String" "COMPACT_STRINGS" "Z" (.int 1) (fun q => s.heap.size ≤ q) s s.heap := va_Zof (hts _ tb_lx.2.2.1) (hts _ tb_lx.2.2.2) (va_eqi (hfl _ (List.mem_of_getElem? (i := 19) rfl))) hA
  obtain ⟨adK, adV, hS, hK⟩ := vk_Sof (args := a0) (s := s) (N := 1) (tm := fun _ => .string "IndexedCompiler$Line" 79) (len := [18]) (byt := [tb_BY]) (A := fun q => s.heap.size ≤ q)
    (fun i hi => by obtain rfl : i = 0 := by omega
                    decide)
    (fun i hi => (hfl _ (List.mem_of_getElem? (i := 62) rfl))) (fun i hi => (hfl _ (List.mem_of_getElem? (i := 63) rfl))) (fun i hi => (hfl _ (List.mem_of_getElem? (i := 64) rfl)))
    (fun i hi => by obtain rfl : i = 0 := by omega
                    exact (hfl _ (List.mem_of_getElem? (i := 65) rfl)))
    (fun i hi => by
      obtain rfl : i = 0 := by omega
      intro j hj
      replace hj : j < 18 := hj
      rcases (by omega : j = 0 ∨ j = 1 ∨ j = 2 ∨ j = 3 ∨ j = 4 ∨ j = 5 ∨ j = 6 ∨ j = 7 ∨ j = 8 ∨ j = 9 ∨ j = 10 ∨ j = 11 ∨ j = 12 ∨ j = 13 ∨ j = 14 ∨ j = 15 ∨ j = 16 ∨ j = 17) with rfl | rfl | rfl | rfl | rfl | rfl | rfl | rfl | rfl | rfl | rfl | rfl | rfl | rfl | rfl | rfl | rfl | rfl
      · exact hfl _ (List.mem_of_getElem? (i := 66) rfl)
      · exact hfl _ (List.mem_of_getElem? (i := 67) rfl)
      · exact hfl _ (List.mem_of_getElem? (i := 68) rfl)
      · exact hfl _ (List.mem_of_getElem? (i := 69) rfl)
      · exact hfl _ (List.mem_of_getElem? (i := 70) rfl)
      · exact hfl _ (List.mem_of_getElem? (i := 71) rfl)
      · exact hfl _ (List.mem_of_getElem? (i := 72) rfl)
      · exact hfl _ (List.mem_of_getElem? (i := 73) rfl)
      · exact hfl _ (List.mem_of_getElem? (i := 74) rfl)
      · exact hfl _ (List.mem_of_getElem? (i := 75) rfl)
      · exact hfl _ (List.mem_of_getElem? (i := 76) rfl)
      · exact hfl _ (List.mem_of_getElem? (i := 77) rfl)
      · exact hfl _ (List.mem_of_getElem? (i := 78) rfl)
      · exact hfl _ (List.mem_of_getElem? (i := 79) rfl)
      · exact hfl _ (List.mem_of_getElem? (i := 80) rfl)
      · exact hfl _ (List.mem_of_getElem? (i := 81) rfl)
      · exact hfl _ (List.mem_of_getElem? (i := 82) rfl)
      · exact hfl _ (List.mem_of_getElem? (i := 83) rfl))
    (fun i j hi hj hne => absurd (by omega) hne) hA
  refine ⟨fun j => match j with | 0 => b0 | 1 => t1 | 2 => t2 | 3 => adK 0 | _ => adV 0, rfl, fun k pc dt ps h => ?_, fun k pc j idx i w h => ?_, fun k pc a c h => ?_, tb_BY, ?_, fun j => rfl⟩
  · have q := mm_all2P_ok tb_lk_all h
    rw [Nat.zero_add] at q
    exact q
  · have q := mm_all2P_ok tb_gs_all h
    rw [Nat.zero_add] at q
    obtain ⟨d0, d1, d2, d3, d4⟩ := q
    dsimp only at d0 d1 d2 d3 d4
    rcases d0 with rfl | rfl
    · exact ⟨d1, ⟨_, _, _, z1, d2⟩, y1, d3, d4⟩
    · exact ⟨d1, ⟨_, _, _, z2, d2⟩, y2, d3, d4⟩
  · have q := mm_all2P_ok tb_xs_all h
    rw [Nat.zero_add] at q
    obtain ⟨q0, q1, q2, q3, q4, q5⟩ := q
    refine ⟨fun e => ?_, q1, q2, q3, q4, fun e => ?_⟩
    · obtain ⟨i, e1, e2, e3⟩ := q0 e
      subst e3
      rw [e2]
      exact ⟨79, _, e1, vk_R.of (hl _ tb_mk) (hK 0 (by decide))⟩
    · obtain ⟨e1, i, e2, e3⟩ := q5 e
      dsimp only at e1
      subst e1
      exact ⟨i, _, _, _, e2, z3, e3⟩
  · refine ⟨fun i hi => ?_, fun i j hi hj _ => by omega⟩
    obtain rfl : i = 0 := by omega
    exact hS.1 0 hi
end MmStart

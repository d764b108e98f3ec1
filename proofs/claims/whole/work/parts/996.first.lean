/-! THE FIRST STATE -/
theorem iv0 : iv (fun _ => none, 0, tb_M0, tb_R0, 159584) := by
  refine ⟨⟨rfl, ⟨Int.le_refl 0, by decide⟩, fun j j0 j1 => ?_⟩, ⟨fun k _ _ => ⟨rfl, rfl, .inl rfl, ⟨by show -1000000000 ≤ (0 : Int); decide, by show (0 : Int) ≤ 1000000000; decide⟩, fun q => ?_⟩, fun k _ _ => ⟨rfl, ⟨by show -1000000000 ≤ (0 : Int); decide, by show (0 : Int) ≤ 1000000000; decide⟩⟩⟩, ⟨rfl, ⟨Int.le_refl 0, by decide⟩, fun r r0 r1 => ?_⟩, ⟨rfl, rfl, Int.le_refl 0, by decide⟩, ⟨.inl rfl, fun _ => ⟨rfl, rfl, rfl, rfl, rfl, rfl⟩, fun q => ?_⟩, ⟨rfl, rfl, rfl, rfl, rfl, rfl, rfl, rfl, Int.le_refl 0, fun k k0 k1 => ?_, rfl, .inl (by decide)⟩, fun q => ?_, trivial⟩
  · have : j < (0 : Int) := j1
    omega
  · have : (0 : Int) = 1 := q
    omega
  · have : r < (0 : Int) := r1
    omega
  · have : (0 : Int) = 1 := q
    omega
  · have : k < (0 : Int) := k1
    omega
  · have : (0 : Int) = 1 := q
    omega
theorem x_cnt_none (f : Int → Option Nat) (h : ∀ j, f j = none) : ∀ n, x_cnt f n = 0
  | 0 => rfl
  | n + 1 => by
    unfold x_cnt
    rw [h, x_cnt_none f h n]
    rfl
theorem rmf : rm 512 (fun _ => none, 0, tb_M0, tb_R0, 159584) := by
  have hS : ∀ n : Nat, x_pS tb_R0 n = 13 * n := by
    intro n
    induction n with
    | zero => rfl
    | succ n ih =>
      unfold x_pS
      rw [ih, show tb_R0 34 (n : Int) = none from rfl]
      show 13 * (n : Int) + 13 = _
      omega
  have hp : x_po tb_R0 = 886 := by
    unfold x_po
    rw [x_cnt_none (tb_R0 7) (fun _ => rfl), x_cnt_none (tb_R0 33) (fun _ => rfl), x_cnt_none (tb_R0 38) (fun _ => rfl), hS 20]
    decide
  refine ⟨?_, ?_, fun j p _ _ h => ?_⟩
  · dsimp only
    rw [hp]
    decide
  · exact Nat.le_refl _
  · cases h
/-- the law's run, but for four of its cases -/
theorem law_run4 {P : xs → Prop} {L : Nat} {xs : Nat → Int32} (hL : L ≤ 3072) (hE : ∀ j, (tb_eX L xs j).1 ≤ 1000000) (hl : (tb_eX L xs 0).1 = L) (hP : iv_P P) (hP0 : P (fun _ => none, 0, tb_M0, tb_R0, 159584)) (h_define : la_P (tb_eX L xs) P 253) (h_check : la_P (tb_eX L xs) P 279) (h_run : la_P (tb_eX L xs) P 801) (h_ask : la_P (tb_eX L xs) P 1082) : mm_call tb_P (tb_eX L xs) 1200 0 [.ref 0] [] 0 (fun o _ _ => o = .inl (some (.int 1))) := by
  have h := law_loop (d := 99) (Q := fun o _ => o = .inl (some (.inl 1))) hE hP h_define h_check h_run h_ask (fun _ => rfl) 512 0 (fun _ => none) 0 tb_M0 tb_R0 159584 (by omega) (by rw [hl]; omega) (by rw [hl]; omega) iv0 hP0 rmf
  have h2 := h tb_ok0 (fun q hq => by
    simp only [List.mem_cons, List.not_mem_nil, or_false] at hq
    rcases hq with rfl | rfl | rfl | rfl | rfl <;> first | trivial | exact i32_00) (fun _ hq => by cases hq)
  rw [tb_g0] at h2
  refine w_init (d := 1100) (mm_l_mono (mm_call_mono _) (mm_call_mono _) (fun o g sl hq => ?_) (.inr ⟨?_, ?_⟩) h2)
  · obtain ⟨o', s', e1, -, -, -, -, e2⟩ := hq
    rw [e1, e2]
    rfl
  · exact mm_ndb_ok rfl
  · exact mm_sub_le ⟨rfl, rfl, rfl, rfl, rfl, trivial⟩

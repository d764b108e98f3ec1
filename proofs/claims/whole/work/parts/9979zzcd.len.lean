/-! READING: places of accesses and calls are apart; the code is no longer than the tokens -/
def nk (s : Int) : Prop := s = 3 ∨ s = 4 ∨ s = 5
def gpl (tk : Int → t_t) (T : Int → Int) (z z' p p' : Int) : Prop := (∀ n, z ≤ n → n < z' → nk (T (n * 9 + 0)) → ∃ i, p ≤ i ∧ i < p' ∧ T (n * 9 + 1) = (tk i).2.1) ∧ ∀ n m, z ≤ n → n < m → m < z' → nk (T (n * 9 + 0)) → nk (T (m * 9 + 0)) → ∃ i j, i < j ∧ p ≤ i ∧ j < p' ∧ T (n * 9 + 1) = (tk i).2.1 ∧ T (m * 9 + 1) = (tk j).2.1
/-- T1 is T0 from lo to hi, but for what stands behind v -/
def gag (T0 T1 : Int → Int) (lo hi v : Int) : Prop := ∀ j, lo * 9 ≤ j → j < hi * 9 → j ≠ v * 9 + 7 → j ≠ v * 9 + 8 → T1 j = T0 j
def gle (T : Int → Int) (z z' v n : Int) : Prop := ∀ T', gag T T' z z' v → ∀ L q, ((c_em T' L v q).length : Int) ≤ n
def glx (T : Int → Int) (z z' v n : Int) : Prop := T (v * 9 + 0) = 3 → ∀ T' : Int → Int, (∀ j, z * 9 ≤ j → j < z' * 9 → j ≠ v * 9 + 7 → j ≠ v * 9 + 8 → j ≠ v * 9 + 0 → j ≠ T (v * 9 + 5) * 9 + 7 → T' j = T j) → ∀ L q, ((c_em T' L (T (v * 9 + 5)) q).length : Int) ≤ n - 2
def gX (tk : Int → t_t) (c : Int) (P : Int → Int → (Int → Int) → g_o → Prop) : Prop := ∀ p z T p' z' T' v, 0 ≤ p → p ≤ c → 1 ≤ z → P p z T (.inr (p', z', T', v)) → gpl tk T' z z' p p' ∧ gle T' z z' v (p' - p) ∧ glx T' z z' v (p' - p)
section
variable {tk : Int → t_t} {T T' : Int → Int}
theorem gpl_fr {z z' p p' : Int} (h : gpl tk T z z' p p') (hT : ∀ n, z ≤ n → n < z' → T' (n * 9 + 0) = T (n * 9 + 0) ∧ T' (n * 9 + 1) = T (n * 9 + 1)) : gpl tk T' z z' p p' := by
  refine ⟨fun n n0 n1 hn => ?_, fun n m n0 nm m1 hn hm => ?_⟩
  · obtain ⟨a, b⟩ := hT n n0 n1
    rw [a] at hn; rw [b]
    exact h.1 n n0 n1 hn
  · obtain ⟨a, b⟩ := hT n n0 (by omega)
    obtain ⟨a2, b2⟩ := hT m (by omega) m1
    rw [a] at hn; rw [a2] at hm; rw [b, b2]
    exact h.2 n m n0 nm m1 hn hm
theorem gpl_no {z z' p p' : Int} (h : ∀ n, z ≤ n → n < z' → ¬ nk (T (n * 9 + 0))) : gpl tk T z z' p p' := ⟨fun n n0 n1 hn => absurd hn (h n n0 n1), fun n m n0 nm m1 hn _ => absurd hn (h n n0 (by omega))⟩
theorem gpl_1 {z p p' : Int} (h : T (z * 9 + 1) = (tk p).2.1) (hp : p < p') : gpl tk T z (z + 1) p p' := ⟨fun n n0 n1 _ => ⟨p, Int.le_refl _, hp, by rw [show n = z by omega]; exact h⟩, fun n m n0 nm m1 _ _ => by omega⟩
theorem gpl_mono {z z' p p' q q' : Int} (h : gpl tk T z z' p p') (h1 : q ≤ p) (h2 : p' ≤ q') : gpl tk T z z' q q' := by
  refine ⟨fun n n0 n1 hn => ?_, fun n m n0 nm m1 hn hm => ?_⟩
  · obtain ⟨i, a, b, c⟩ := h.1 n n0 n1 hn
    exact ⟨i, by omega, by omega, c⟩
  · obtain ⟨i, j, a, b, c, d, e⟩ := h.2 n m n0 nm m1 hn hm
    exact ⟨i, j, a, by omega, by omega, d, e⟩
theorem gpl_app {z z1 z2 p p1 p2 : Int} (h1 : gpl tk T z z1 p p1) (h2 : gpl tk T z1 z2 p1 p2) (hp : p ≤ p1 ∧ p1 ≤ p2) : gpl tk T z z2 p p2 := by
  refine ⟨fun n n0 n1 hn => ?_, fun n m n0 nm m1 hn hm => ?_⟩
  · by_cases q : n < z1
    · obtain ⟨i, a, b, c⟩ := h1.1 n n0 q hn
      exact ⟨i, a, by omega, c⟩
    · obtain ⟨i, a, b, c⟩ := h2.1 n (by omega) n1 hn
      exact ⟨i, by omega, b, c⟩
  · by_cases q : m < z1
    · obtain ⟨i, j, a, b, c, d, e⟩ := h1.2 n m n0 nm q hn hm
      exact ⟨i, j, a, b, by omega, d, e⟩
    · by_cases q2 : n < z1
      · obtain ⟨i, a, b, c⟩ := h1.1 n n0 q2 hn
        obtain ⟨j, a2, b2, c2⟩ := h2.1 m (by omega) m1 hm
        exact ⟨i, j, by omega, a, b2, c, c2⟩
      · obtain ⟨i, j, a, b, c, d, e⟩ := h2.2 n m (by omega) nm m1 hn hm
        exact ⟨i, j, a, by omega, c, d, e⟩
/-- nodes of indexes, props, types: none is an access or a call -/
def gno (T : Int → Int) (a b : Int) : Prop := ∀ n, a ≤ n → n < b → ¬ nk (T (n * 9 + 0))
theorem gno_app {a b c : Int} (h1 : gno T a b) (h2 : gno T b c) : gno T a c := fun n n0 n1 => by
  by_cases q : n < b
  · exact h1 n n0 q
  · exact h2 n (by omega) n1
theorem gno_fr {a b : Int} (h : gno T a b) (hT : ∀ n, a ≤ n → n < b → T' (n * 9 + 0) = T (n * 9 + 0)) : gno T' a b := fun n n0 n1 => by rw [hT n n0 n1]; exact h n n0 n1
theorem gno_1 {z k : Int} (h : T (z * 9 + 0) = k) (hk : ¬ nk k) : gno T z (z + 1) := fun n n0 n1 => by rw [show n = z by omega, h]; exact hk
theorem t_tm_0 {z last : Int} {t : z_t} (hl : last = 0 ∨ last < z) : t_tm T z last t (z * 9 + 0) = 16 := by
  unfold t_tm
  split <;> split <;> simp (disch := omega) only [t_u_o, t_ad_0]
theorem t_ix_no : ∀ (L : List z_t) (T : Int → Int) (z last : Int), 0 ≤ last → last < z → gno (t_ix T z last L) z (z + L.length)
  | [], T, z, last, _, _ => fun n n0 n1 => by rw [List.length_nil] at n1; omega
  | t :: l, T, z, last, hl, hz => by
    show gno (t_ix (t_tm T z last t) (z + 1) z l) z (z + ((l.length + 1 : Nat) : Int))
    rw [show z + ((l.length + 1 : Nat) : Int) = z + 1 + l.length by omega]
    refine gno_app (gno_fr (gno_1 (t_tm_0 (T := T) (last := last) (t := t) (by omega)) (by unfold nk; omega)) (fun n n0 n1 => t_ix_lo _ _ _ _ _ (by omega) (.inr (by omega)))) (t_ix_no l _ (z + 1) z (by omega) (by omega))
theorem t_p0_no {z : Int} {x : z_p} (hz : 1 ≤ z) : gno (t_p0 T z x) z (z + z_pn x) := by
  unfold t_p0 z_pn
  rw [show z + (1 + (x.2.2.1.length : Int) + x.2.2.2.1.length) = z + 1 + x.2.2.1.length + x.2.2.2.1.length by omega]
  refine gno_fr (gno_app (gno_app (gno_fr (gno_1 (T := t_ad T z 18 x.2.1) (t_ad_0 rfl) (by unfold nk; omega)) (fun n n0 n1 => ?_)) (gno_fr (t_ix_no x.2.2.1 (t_ad T z 18 x.2.1) (z + 1) 0 (by omega) (by omega)) (fun n n0 n1 => ?_))) (t_ix_no x.2.2.2.1 _ (z + 1 + x.2.2.1.length) 0 (by omega) (by omega))) (fun n n0 n1 => t_u_o (by omega))
  · rw [t_ix_lo _ _ _ _ _ (by omega) (.inl rfl), t_u_o (by omega), t_u_o (by omega), t_ix_lo _ _ _ _ _ (by omega) (.inl rfl)]
  · rw [t_ix_lo _ _ _ _ _ (by omega) (.inl rfl), t_u_o (by omega), t_u_o (by omega)]
theorem t_ps_no : ∀ (L : List z_p) (T : Int → Int) (z last : Int), 1 ≤ z → 0 ≤ last → last < z → gno (t_ps T z last L) z (z + z_psn L)
  | [], T, z, last, _, _, _ => fun n n0 n1 => by
    have : z_psn [] = 0 := rfl
    omega
  | x :: l, T, z, last, hz, hl, hlz => by
    have e : z_psn (x :: l) = z_pn x + z_psn l := rfl
    have p0 : 1 ≤ z_pn x := by unfold z_pn; omega
    show gno (t_ps (t_pp T z last x) (z + z_pn x) z l) z (z + z_psn (x :: l))
    rw [e, ← Int.add_assoc]
    refine gno_app (gno_fr (t_p0_no (T := T) (x := x) hz) (fun n n0 n1 => ?_)) (t_ps_no l _ (z + z_pn x) z (by omega) (by omega) (by omega))
    rw [t_ps_lo _ _ _ _ _ (by omega) (.inr (by omega))]
    unfold t_pp
    split
    · rfl
    · exact t_u_o (by omega)
theorem t_ty_no {z : Int} {x : z_T} (hz : 1 ≤ z) (hx : x.1 = 0 ∨ x.1 = 1 ∨ x.1 = 2 ∨ x.1 = 3) (h2 : x.1 ≠ 2 → x.2.2.2.2 = []) (h1 : x.1 = 0 ∨ x.1 = 2 → x.2.2.1.2 = []) : gno (t_ty T z x) z (z + z_tn x) := by
  unfold t_ty z_tn
  by_cases q0 : x.1 = 0
  · rw [if_pos q0, h1 (.inl q0), h2 (by omega), show z_psn [] = 0 from rfl, List.length_nil, show z + (1 + ((0 : Nat) : Int) + 0) = z + 1 by omega]
    exact gno_1 (t_ad_0 rfl) (by unfold nk; omega)
  · rw [if_neg q0]
    by_cases q2 : x.1 = 2
    · rw [if_pos q2, h1 (.inr q2), List.length_nil, show z + (1 + ((0 : Nat) : Int) + z_psn x.2.2.2.2) = z + 1 + z_psn x.2.2.2.2 by omega]
      refine gno_fr (gno_app (gno_fr (gno_1 (T := t_u (t_u (t_ad T z 19 x.2.1) (z * 9 + 0) 21) (z * 9 + 3) x.2.2.2.1.1) (k := 21) (by rw [t_u_o (by omega), t_u_s rfl]) (by unfold nk; omega)) (fun n n0 n1 => t_ps_lo _ _ _ _ _ (by omega) (.inl rfl))) (t_ps_no _ _ (z + 1) 0 (by omega) (by omega) (by omega))) (fun n n0 n1 => t_u_o (by omega))
    · rw [if_neg q2, h2 q2, show z_psn [] = 0 from rfl, show z + (1 + (x.2.2.1.2.length : Int) + 0) = z + 1 + x.2.2.1.2.length by omega]
      refine gno_fr (gno_app (gno_fr (gno_1 (T := t_u (t_ad T z 19 x.2.1) (z * 9 + 0) (if x.1 = 3 then 22 else 20)) (k := if x.1 = 3 then 22 else 20) (t_u_s rfl) (by unfold nk; split <;> omega)) (fun n n0 n1 => t_ix_lo _ _ _ _ _ (by omega) (.inl rfl))) (t_ix_no _ _ (z + 1) 0 (by omega) (by omega))) (fun n n0 n1 => t_u_o (by omega))
end
section
variable {U : Int → Int} {L : Nat} {v q f g n n1 n2 n3 n4 : Int}
theorem gl_0 {f : Int} (hn : ∀ L q, ((c_em U L f q).length : Int) ≤ n) : 0 ≤ n := by
  have h := hn 0 0
  have e : c_em U 0 f 0 = [] := rfl
  rw [e, List.length_nil] at h
  omega
theorem gl_z : ((c_em U 0 v q).length : Int) = 0 := rfl
theorem gl_1 (h : U (v * 9 + 0) = 1 ∨ U (v * 9 + 0) = 2) : ((c_em U L v q).length : Int) ≤ 1 := by
  cases L with
  | zero => rw [gl_z]; omega
  | succ L =>
    rcases h with h | h
    · rw [c_em_1 h]; exact Int.le_refl _
    · rw [c_em_2 h]; exact Int.le_refl _
theorem gl_6 (h : U (v * 9 + 0) = 6) : ((c_em U L v q).length : Int) ≤ 2 := by
  cases L with
  | zero => rw [gl_z]; omega
  | succ L => rw [c_em_6 h]; exact Int.le_refl _
theorem gl_7 (h : U (v * 9 + 0) = 7 ∨ U (v * 9 + 0) = 8) (hf : U (v * 9 + 5) = f) (hn : ∀ L q, ((c_em U L f q).length : Int) ≤ n) : ((c_em U L v q).length : Int) ≤ n + 1 := by
  have h0 := gl_0 hn
  cases L with
  | zero => rw [gl_z]; omega
  | succ L =>
    have h1 := hn L q
    rcases h with h | h
    · rw [c_em_7 h, hf, List.length_append, List.length_cons, List.length_nil]; omega
    · rw [c_em_8 h, hf, List.length_append, List.length_cons, List.length_nil]; omega
theorem gl_9 (h : U (v * 9 + 0) = 9 ∨ U (v * 9 + 0) = 10) (hf : U (v * 9 + 5) = f) (hn : ∀ L q, ((c_em U L f q).length : Int) ≤ n) : ((c_em U L v q).length : Int) ≤ n := by
  have h0 := gl_0 hn
  cases L with
  | zero => rw [gl_z]; omega
  | succ L => rw [c_em_9 h, hf]; exact hn L q
theorem gl_3 (h : U (v * 9 + 0) = 3) (hf : U (v * 9 + 5) = f) (hn : ∀ L q, ((c_em U L f q).length : Int) ≤ n) : ((c_em U L v q).length : Int) ≤ n + 2 := by
  have h0 := gl_0 hn
  cases L with
  | zero => rw [gl_z]; omega
  | succ L =>
    have h1 := hn L (q + 1)
    rw [c_em_3 h, hf, List.length_cons, List.length_append, List.length_cons, List.length_nil]; omega
theorem gl_4 (h : U (v * 9 + 0) = 4) (hf : U (v * 9 + 5) = f) (hg : t_nx U f = g) (hn1 : ∀ L q, ((c_em U L f q).length : Int) ≤ n1) (hn2 : ∀ L q, ((c_em U L g q).length : Int) ≤ n2) : ((c_em U L v q).length : Int) ≤ n1 + n2 + 2 := by
  have h0 := gl_0 hn1
  have h0' := gl_0 hn2
  cases L with
  | zero => rw [gl_z]; omega
  | succ L =>
    have h1 := hn1 L (q + 1)
    have h2 := hn2 L (q + 1 + (c_em U L f (q + 1)).length)
    rw [c_em_4 h, hf, hg, List.length_cons, List.length_append, List.length_append, List.length_cons, List.length_nil]; omega
theorem gl_5 (h : U (v * 9 + 0) = 5) (hf : U (v * 9 + 5) = f) (hn : ∀ L m q, ((c_as U (c_em U L) m f q).length : Int) ≤ n) : ((c_em U L v q).length : Int) ≤ n + 1 := by
  have h0 : 0 ≤ n := hn 0 0 0
  cases L with
  | zero => rw [gl_z]; omega
  | succ L =>
    have h1 := hn L 500 q
    rw [c_em_5 h, hf, List.length_append, List.length_cons, List.length_nil]; omega
theorem gl_14 (h : U (v * 9 + 0) = 14) (hf : U (v * 9 + 5) = f) (hg : t_nx U f = g) (hn1 : ∀ L q, ((c_em U L f q).length : Int) ≤ n1) (hn2 : ∀ L q, ((c_em U L g q).length : Int) ≤ n2) : ((c_em U L v q).length : Int) ≤ n1 + n2 + 1 := by
  have h0 := gl_0 hn1
  have h0' := gl_0 hn2
  cases L with
  | zero => rw [gl_z]; omega
  | succ L =>
    have h1 := hn1 L q
    have h2 := hn2 L (q + (c_em U L f q).length + 1)
    rw [c_em_14 h, hf, hg, List.length_append, List.length_cons]; omega
theorem gl_15 {f2 f3 f4 : Int} (h : U (v * 9 + 0) = 15) (hf : U (v * 9 + 5) = f) (hg : t_nx U f = f2) (hg3 : t_nx U f2 = f3) (hg4 : t_nx U f3 = f4) (hn1 : ∀ L q, ((c_em U L f q).length : Int) ≤ n1) (hn2 : ∀ L q, ((c_em U L f2 q).length : Int) ≤ n2) (hn3 : ∀ L q, ((c_em U L f3 q).length : Int) ≤ n3) (hn4 : ∀ L q, ((c_em U L f4 q).length : Int) ≤ n4) : ((c_em U L v q).length : Int) ≤ n1 + n2 + n3 + n4 + 2 := by
  have h0 := gl_0 hn1
  have h01 := gl_0 hn2
  have h02 := gl_0 hn3
  have h03 := gl_0 hn4
  cases L with
  | zero => rw [gl_z]; omega
  | succ L =>
    rw [c_em_15 h, hf, hg, hg3, hg4]
    unfold e_if
    obtain ⟨A, hA⟩ : ∃ A, A = c_em U L f q := ⟨_, rfl⟩
    have h1 := hn1 L q
    rw [← hA] at h1 ⊢
    obtain ⟨B, hB⟩ : ∃ B, B = c_em U L f2 (q + A.length) := ⟨_, rfl⟩
    have h2 := hn2 L (q + A.length)
    rw [← hB] at h2 ⊢
    obtain ⟨C, hC⟩ : ∃ C, C = c_em U L f3 (q + A.length + B.length + 1) := ⟨_, rfl⟩
    have h3 := hn3 L (q + A.length + B.length + 1)
    rw [← hC] at h3 ⊢
    obtain ⟨D, hD⟩ : ∃ D, D = c_em U L f4 (q + A.length + B.length + 2 + C.length) := ⟨_, rfl⟩
    have h4 := hn4 L (q + A.length + B.length + 2 + C.length)
    rw [← hD] at h4 ⊢
    simp only [List.length_append, List.length_cons, List.length_nil]
    omega
theorem gl_11 (h : 11 ≤ U (v * 9 + 0) ∧ U (v * 9 + 0) ≤ 13) (hf : U (v * 9 + 5) = f) (hn1 : ∀ L q, ((c_em U L f q).length : Int) ≤ n1) (hn2 : ∀ L k m q, ((c_cn U (c_em U L) k m (t_nx U f) q).length : Int) ≤ n2) : ((c_em U L v q).length : Int) ≤ n1 + n2 := by
  have h0 := gl_0 hn1
  have h0' : 0 ≤ n2 := hn2 0 0 0 0
  cases L with
  | zero => rw [gl_z]; omega
  | succ L =>
    have h1 := hn1 L q
    have h2 := hn2 L (U (v * 9 + 0)) 500 (q + (c_em U L f q).length)
    rw [c_em_11 h, hf, List.length_append]; omega
theorem gl_cn0 {k : Int} {m : Nat} {em : Int → Int → List (Int × Int)} (h : f ≤ 0) : ((c_cn U em k m f q).length : Int) ≤ 0 := by
  cases m with
  | zero => exact Int.le_refl _
  | succ m =>
    unfold c_cn
    rw [if_pos h]
    exact Int.le_refl _
theorem gl_cn {k : Int} {m : Nat} (hn1 : ∀ L q, ((c_em U L f q).length : Int) ≤ n1) (hn2 : ∀ L k m q, ((c_cn U (c_em U L) k m (t_nx U f) q).length : Int) ≤ n2) : ((c_cn U (c_em U L) k m f q).length : Int) ≤ n1 + 1 + n2 := by
  have h0 := gl_0 hn1
  have h0' : 0 ≤ n2 := hn2 0 0 0 0
  cases m with
  | zero =>
    show (0 : Int) ≤ _
    omega
  | succ m =>
    unfold c_cn
    split
    · show (0 : Int) ≤ _
      omega
    · have h1 : ((c_pt U (c_em U L) k f q).length : Int) ≤ n1 + 1 := by
        unfold c_pt
        split
        · have := hn1 L (q + 1)
          rw [List.length_cons]; omega
        · split
          · rw [List.length_cons, List.length_nil]; omega
          · have := hn1 L q
            rw [List.length_append, List.length_cons, List.length_nil]; omega
      have h2 := hn2 L k m (q + (c_pt U (c_em U L) k f q).length)
      rw [List.length_append]; omega
theorem gl_as0 {m : Nat} {em : Int → Int → List (Int × Int)} (h : f ≤ 0) : ((c_as U em m f q).length : Int) ≤ 0 := by
  cases m with
  | zero => exact Int.le_refl _
  | succ m =>
    unfold c_as
    rw [if_pos h]
    exact Int.le_refl _
theorem gl_as {m : Nat} (hn1 : ∀ L q, ((c_em U L f q).length : Int) ≤ n1) (hn2 : ∀ L m q, ((c_as U (c_em U L) m (t_nx U f) q).length : Int) ≤ n2) : ((c_as U (c_em U L) m f q).length : Int) ≤ n1 + n2 := by
  have h0 := gl_0 hn1
  have h0' : 0 ≤ n2 := hn2 0 0 0
  cases m with
  | zero =>
    show (0 : Int) ≤ _
    omega
  | succ m =>
    unfold c_as
    split
    · show (0 : Int) ≤ _
      omega
    · have h1 := hn1 L q
      have h2 := hn2 L m (q + (c_em U L f q).length)
      rw [List.length_append]; omega
end

/-! CHAINS: what is known of them as they grow -/
/-- however it goes on from the last operand, it goes on so from the first -/
def e_p (kd lo node : Int) (b : Prop) (r0 f0 : Int) (M : Nat → Int → Int) (T : Int → Int) (zc last r : Int) : Prop := ∀ (M' : Nat → Int → Int) (T' : Int → Int) (hi' : Int) (l2 : List (Int × Int)) (rf : Int), qGn M M' → (∀ x, lo ≤ x → x < zc → x ≠ node → ∀ i, 0 ≤ i → i < 9 → (x = last → i ≠ 7) → T' (x * 9 + i) = T (x * 9 + i)) → zc ≤ hi' → e_h M' T' (e_n M' T') (e_D lo hi' node) kd l2 r last rf → ∃ l, (b ∨ l2 ≠ [] → l ≠ []) ∧ e_h M' T' (e_n M' T') (e_D lo hi' node) kd l r0 f0 rf
/-- what one more operand is -/
def e_o (M : Nat → Int → Int) (T : Int → Int) (D : Int → Prop) (k r1 f1 : Int) : Prop := (k = 11 ∧ ((T (f1 * 9 + 8) = 43 ∧ M 96 r1 = 8) ∨ (T (f1 * 9 + 8) = 45 ∧ M 96 r1 = 9)) ∧ e_c (e_n M T) D r1 (M 98 r1) f1) ∨ (k = 12 ∧ T (f1 * 9 + 8) = 42 ∧ M 96 r1 = 10 ∧ e_c (e_n M T) D r1 (M 98 r1) f1) ∨ (k = 12 ∧ (T (f1 * 9 + 8) = 47 ∧ T (f1 * 9 + 0) = 1) ∧ M 96 r1 = 11 ∧ M 98 r1 = T (f1 * 9 + 4) ∧ 1 ≤ M 98 r1 ∧ M 98 r1 ≤ 999) ∨ (k = 13 ∧ M 96 r1 = 12 ∧ e_c (e_n M T) D r1 (M 98 r1) f1)
/-- a chain so far -/
def eCo (kd lo node : Int) (b : Prop) (M : Nat → Int → Int) (T : Int → Int) (zc last r : Int) : Prop := ∃ (r0 f0 : Int) (M0 : Nat → Int → Int) (T0 : Int → Int), e_n M0 T0 (e_D lo node f0) r0 f0 ∧ (lo ≤ f0 ∧ f0 < node ∧ 1 ≤ f0) ∧ qGn M0 M ∧ (b → M0 81 21 ≤ r) ∧ (∀ j, lo * 9 ≤ j → j < node * 9 → j ≠ f0 * 9 + 7 → T j = T0 j) ∧ (T (node * 9 + 0) = kd ∧ T (node * 9 + 1) = M 102 r ∧ T (node * 9 + 5) = f0) ∧ (lo ≤ last ∧ last < zc ∧ last ≠ node ∧ 1 ≤ last ∧ (last < node → last = f0)) ∧ T (last * 9 + 7) = 0 ∧ node < zc ∧ (0 ≤ r ∧ r < M 81 21 ∧ 700 * M 81 10 ≤ r) ∧ e_p kd lo node b r0 f0 M T zc last r
theorem eC_0 {kd lo node v r : Int} {M : Nat → Int → Int} {T : Int → Int} (hn : e_n M T (e_D lo node v) r v) (hv : lo ≤ v ∧ v < node ∧ 1 ≤ v) (h7 : T (v * 9 + 7) = 0) : eCo kd lo node False M (t_u (t_ad T node kd (T (v * 9 + 1))) (node * 9 + 5) v) (node + 1) v r := by
  have hb := e_n_b hn
  refine ⟨r, v, M, T, hn, hv, qGn_rf M, fun h => h.elim, fun j a b _ => ?_, ⟨?_, ?_, t_u_s rfl⟩, ⟨hv.1, by omega, by omega, hv.2.2, fun _ => rfl⟩, ?_, by omega, hb.1, fun M' T' hi' l2 rf _ _ _ h => ⟨l2, fun h => h.resolve_left id, h⟩⟩
  · rw [t_u_o (by omega), t_ad_lo b]
  · rw [t_u_o (by omega), t_ad_0 rfl]
  · rw [t_u_o (by omega), t_ad_1 rfl, hb.2]
  · rw [t_u_o (by omega), t_ad_lo (by omega)]; exact h7
theorem eC_m {kd lo node zc last r : Int} {b : Prop} {M M' : Nat → Int → Int} {T : Int → Int} (h : eCo kd lo node b M T zc last r) (hg : qGn M M') : eCo kd lo node b M' T zc last r := by
  obtain ⟨r0, f0, M0, T0, a1, a2, a3, a4, a5, ⟨a6, a7, a8⟩, a9, a10, a11, a12, a13⟩ := h
  have g1 := hg.2.2.1.1
  exact ⟨r0, f0, M0, T0, a1, a2, qGn_tr a3 hg, a4, a5, ⟨a6, by rw [a7]; exact (hg.2.2.1.2 102 r (by omega) (by omega) a12.2.1).symm, a8⟩, a9, a10, a11, ⟨a12.1, by omega, by have := hg.2.1 10 (by decide) (by decide) (by decide) (by decide) (by decide) (by decide) (by decide) (by decide) (by decide) (by decide) (by decide); omega⟩, fun M2 T2 hi' l2 rf q1 q2 q3 q4 => a13 M2 T2 hi' l2 rf (qGn_tr hg q1) q2 q3 q4⟩
theorem eC_s {kd lo node zc last r v z1 r1 : Int} {b : Prop} {M M3 : Nat → Int → Int} {T T1 T2 : Int → Int} (h : eCo kd lo node b M T zc last r) (hg : qGn M M3) (hT1 : ∀ j, j < zc * 9 → T1 j = T j) (hv : zc ≤ v ∧ v < z1) (h7 : T1 (v * 9 + 7) = 0) (hT2 : ∀ j, j ≠ last * 9 + 7 → j ≠ v * 9 + 8 → T2 j = T1 j) (hl : T2 (last * 9 + 7) = v) (hr1 : M 81 21 ≤ r1 ∧ r1 < M3 81 21) (m97 : M3 97 r1 = r) (m102 : M3 102 r1 = M 102 r) (hX : ∀ (M' : Nat → Int → Int) (T' : Int → Int) (hi' : Int), qGn M3 M' → (∀ x, lo ≤ x → x < z1 → x ≠ node → ∀ i, 0 ≤ i → i < 9 → (x = v → i ≠ 7) → T' (x * 9 + i) = T2 (x * 9 + i)) → z1 ≤ hi' → e_o M' T' (e_D lo hi' node) kd r1 v) : eCo kd lo node True M3 T2 z1 v r1 := by
  obtain ⟨r0, f0, M0, T0, a1, a2, a3, a4, a5, ⟨a6, a7, a8⟩, ⟨b1, b2, b3, b4, b5⟩, a10, a11, a12, a13⟩ := h
  have low : ∀ j, j < zc * 9 → j ≠ last * 9 + 7 → T2 j = T j := fun j p q => by rw [hT2 j q (by omega)]; exact hT1 j p
  have g1 := a3.2.2.1.1
  have g10 := hg.2.1 10 (by decide) (by decide) (by decide) (by decide) (by decide) (by decide) (by decide) (by decide) (by decide) (by decide) (by decide)
  refine ⟨r0, f0, M0, T0, a1, a2, qGn_tr a3 hg, fun _ => by omega, fun j p q w => ?_, ⟨?_, ?_, ?_⟩, ⟨by omega, hv.2, by omega, by omega, fun q => by omega⟩, ?_, by omega, by omega, fun M' T' hi' l2 rf q1 q2 q3 q4 => ?_⟩
  · rw [low j (by omega) ?_]
    · exact a5 j p q w
    · by_cases hn : last < node
      · rw [b5 hn]; exact w
      · omega
  · rw [low _ (by omega) (by omega)]; exact a6
  · rw [low _ (by omega) (by omega), a7]; exact m102.symm
  · rw [low _ (by omega) (by omega)]; exact a8
  · rw [hT2 _ (by omega) (by omega)]; exact h7
  · have gg := qGn_tr hg q1
    have nx : t_nx T' last = v := by
      unfold t_nx
      rw [q2 last b1 (by omega) b3 7 (by omega) (by omega) (fun h => by omega), hl, if_pos (by omega)]
    have k97 : M' 97 r1 = r := by rw [q1.2.2.1.2 97 r1 (by omega) (by omega) hr1.2]; exact m97
    have k102 : M' 102 r1 = M' 102 r := by rw [q1.2.2.1.2 102 r1 (by omega) (by omega) hr1.2, m102, gg.2.2.1.2 102 r (by omega) (by omega) a12.2.1]
    have k21 := q1.2.2.1.1
    obtain ⟨l, i1, i2⟩ := a13 M' T' hi' ((r1, v) :: l2) rf gg (fun x p q w i i0 i9 s => by
      rw [q2 x p (by omega) w i i0 i9 (fun h => by omega)]
      exact low _ (by omega) (fun h => s (by omega) (by omega))) (by omega) ⟨⟨nx, by omega, ⟨⟨by omega, by omega⟩, by omega⟩⟩, ⟨k97, a12.1, by omega, by omega, k102⟩, hX M' T' hi' q1 q2 q3, q4⟩
    exact ⟨l, fun _ => i1 (.inr (by simp)), i2⟩
theorem eC_e {kd lo node zc last r : Int} {M : Nat → Int → Int} {T : Int → Int} (h : eCo kd lo node True M T zc last r) : e_n M T (e_D lo zc node) r node := by
  obtain ⟨r0, f0, M0, T0, a1, a2, a3, a4, a5, ⟨a6, a7, a8⟩, ⟨b1, b2, b3, b4, b5⟩, a10, a11, a12, a13⟩ := h
  have nx : t_nx T last = 0 := by
    unfold t_nx
    rw [a10, if_neg (by omega)]
  obtain ⟨l, i1, i2⟩ := a13 M T zc [] r (qGn_rf M) (fun _ _ _ _ _ _ _ _ => rfl) (Int.le_refl _) ⟨rfl, nx⟩
  refine e_n_fo ⟨a12, a7.symm, .inr (.inr (.inr (.inr (.inr (.inr (.inr (.inr (.inl ⟨kd, r0, l, a6, i1 (.inl trivial), ?_, ?_⟩))))))))⟩
  · rw [a8]
    exact e_cc a3 a1 ⟨a2.1, a2.2.1⟩ a2.2.2 (fun j p q w _ => a5 j p q w) (fun x p q => ⟨⟨p, by omega⟩, by omega⟩) (a4 trivial)
  · rw [a8]; exact i2
/-- an operand that was read -/
theorem e_oc {lo node zc v z1 r1 ra : Int} {M2 M3 M' : Nat → Int → Int} {T1 T2 T' : Int → Int} {hi' : Int} (hn : e_n M2 T1 (e_D zc z1 v) ra v) (hg : qGn M2 M3) (hg' : qGn M3 M') (hv : zc ≤ v ∧ v < z1) (hz : lo ≤ zc ∧ node < zc ∧ 0 ≤ lo) (hr1 : M2 81 21 ≤ r1) (hT2 : ∀ j, zc * 9 ≤ j → j ≠ v * 9 + 8 → T2 j = T1 j) (hT' : ∀ x, lo ≤ x → x < z1 → x ≠ node → ∀ i, 0 ≤ i → i < 9 → (x = v → i ≠ 7) → T' (x * 9 + i) = T2 (x * 9 + i)) (hz1 : z1 ≤ hi') (hv1 : 1 ≤ v) : e_c (e_n M' T') (e_D lo hi' node) r1 ra v := by
  refine e_cc (qGn_tr hg hg') hn hv hv1 (fun j a b q1 q2 => ?_) (fun x a b => ⟨⟨by omega, by omega⟩, by omega⟩) hr1
  have := hT' (j / 9) (by omega) (by omega) (by omega) (j % 9) (by omega) (by omega) (fun h => by omega)
  rw [show j / 9 * 9 + j % 9 = j by omega] at this
  rw [this]
  exact hT2 j a q2

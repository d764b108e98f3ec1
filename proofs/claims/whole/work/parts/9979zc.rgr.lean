/-! THE REFERENCE READS BY THE GRAMMAR: what is kept along the way -/
/-- what is left as it was; s: room for so many tokens is taken at most, u: of what calls are given -/
def qR (k s u : Int) (M M' : Nat → Int → Int) : Prop := qGn M M' ∧ qFr k M M' ∧ M' 81 30 - M 81 30 ≤ s ∧ 2 * (M' 81 34 - M 81 34) ≤ s ∧ 3 * (M' 81 38 - M 81 38) ≤ s ∧ M' 81 21 - M 81 21 ≤ s ∧ 3 * (M' 81 42 - M 81 42) ≤ s ∧ 2 * (M' 81 48 - M 81 48) ≤ u
theorem qR_tr {k s u s' u' : Int} {M M1 M2 : Nat → Int → Int} (h1 : qR k s u M M1) (h2 : qR k s' u' M1 M2) : qR k (s + s') (u + u') M M2 := by
  obtain ⟨a1, b1, c1, d1, e1, f1, g1, i1⟩ := h1
  obtain ⟨a2, b2, c2, d2, e2, f2, g2, i2⟩ := h2
  exact ⟨qGn_tr a1 a2, qFr_tr b1 b2, by omega, by omega, by omega, by omega, by omega, by omega⟩
theorem qR_le {k l s u s' u' : Int} {M M' : Nat → Int → Int} (h : qR k s u M M') (hl : l ≤ k) (hs : s ≤ s') (hu : u ≤ u') : qR l s' u' M M' := by
  obtain ⟨a1, b1, c1, d1, e1, f1, g1, i1⟩ := h
  exact ⟨a1, qFr_le b1 hl, by omega, by omega, by omega, by omega, by omega, by omega⟩
theorem qR_0 {k : Int} {M M' : Nat → Int → Int} (hG : qGn M M') (hF : qFr k M M') (h : ∀ j, j = 21 ∨ j = 30 ∨ j = 34 ∨ j = 38 ∨ j = 42 ∨ j = 48 → M' 81 j = M 81 j) : qR k 0 0 M M' := by
  have h1 := h 21 (by omega)
  have h2 := h 30 (by omega)
  have h3 := h 34 (by omega)
  have h4 := h 38 (by omega)
  have h5 := h 42 (by omega)
  have h6 := h 48 (by omega)
  exact ⟨hG, hF, by omega, by omega, by omega, by omega, by omega, by omega⟩
theorem qR_J {k : Int} {M M' : Nat → Int → Int} (h : qJ k M M') : qR k 0 0 M M' := qR_0 (qGn_J h) (qFr_J h) (fun j hj => h.2.1 j (by omega))
theorem qR_E {k w dp a : Int} {M M' : Nat → Int → Int} (h : qEo k w dp a M M') : qR k 0 0 M M' := qR_0 (qGn_E h) (qFr_E h) (fun j hj => h.2.2.2.1 j (by omega))
theorem qR_P {k : Int} {M M' : Nat → Int → Int} (h : qP M M') : qR k 0 0 M M' := qR_0 (qGn_P h) (qFr_P h) (fun j hj => h.2 j (by omega))
theorem qR_1 {k n : Int} {M M' : Nat → Int → Int} (hn : M 81 21 = n) (hG : qGn M M') (hF : qFr k M M') (h1 : M' 81 21 = n + 1) (h : ∀ j, j = 30 ∨ j = 34 ∨ j = 38 ∨ j = 42 ∨ j = 48 → M' 81 j = M 81 j) : qR k 1 0 M M' := by
  have h2 := h 30 (by omega)
  have h3 := h 34 (by omega)
  have h4 := h 38 (by omega)
  have h5 := h 42 (by omega)
  have h6 := h 48 (by omega)
  exact ⟨hG, hF, by omega, by omega, by omega, by omega, by omega, by omega⟩
theorem qR_F {k l n kd a b c at' : Int} {M M' : Nat → Int → Int} (hn : M 81 21 = n) (h : qF k n kd a b c at' M M') : qR l 1 0 M M' := qR_1 hn (qGn_F hn h) (qFr_F h) h.1.2.2 (fun j hj => h.2.2.2.1 j (by omega) (by omega) (by omega))
theorem qR_F5 {k l n kd a b c f g at' : Int} {M M' : Nat → Int → Int} (hn : M 81 21 = n) (h : qF5 k n kd a b c f g at' M M') : qR l 1 0 M M' := qR_1 hn (qGn_F5 hn h) (qFr_F5 h) h.1.2.2 (fun j hj => h.2.2.2.1 j (by omega) (by omega) (by omega))
theorem qR_K {l n kd a b c at' : Int} {M M' : Nat → Int → Int} (hn : M 81 21 = n) (h : qK n kd a b c at' M M') : qR l 1 0 M M' := qR_1 hn (qGn_K hn h) (qFr_K h) h.1 (fun j hj => h.2.2.2.1 j (by omega))
theorem qR_O {k p p' : Int} {M M' : Nat → Int → Int} (hG : qGn M M') (hF : qFr k M M') (hD : qD M M' p p') : qR k (p' - p) (p' - p - 1) M M' := by
  obtain ⟨e1, e2, e3, e4, e5, e6⟩ := hD
  exact ⟨hG, hF, by omega, by omega, by omega, by omega, by omega, by omega⟩
theorem qR_D {k s u p p' : Int} {M M' : Nat → Int → Int} (h : qR k s u M M') (hs : s ≤ p' - p) (hu : u + 1 ≤ p' - p) : qD M M' p p' := by
  obtain ⟨a1, b1, c1, d1, e1, f1, g1, i1⟩ := h
  exact ⟨by omega, by omega, by omega, by omega, by omega, by omega⟩
theorem qBn_R {c k s u p p' : Int} {M M' : Nat → Int → Int} (hB : qBn c M p) (h : qR k s u M M') (hs : s ≤ p' - p) (hu : u ≤ p' - p) : qBn c M' p' := by
  obtain ⟨hG, b1, c1, d1, e1, f1, g1, i1⟩ := h
  obtain ⟨⟨⟨a1, a2⟩, ⟨a3, a4⟩, a5, a6⟩, ⟨j1, j2, j3⟩, ⟨k1, k2⟩, l1, l2⟩ := hB
  dsimp only at a2 a4 a6
  have q1 := hG.2.2.1.1
  have q2 := hG.2.2.2.1.1
  have q3 := hG.2.2.2.2.1.1
  have q4 := hG.2.2.2.2.2.1.1
  have q5 := hG.2.2.2.2.2.2.1.1
  have q6 := hG.2.2.2.2.2.2.2.1
  have q7 := hG.2.1 10 (by decide) (by decide) (by decide) (by decide) (by decide) (by decide) (by decide) (by decide) (by decide) (by decide) (by decide)
  exact ⟨⟨⟨by omega, by dsimp only; omega⟩, ⟨by omega, by dsimp only; omega⟩, by omega, by dsimp only; omega⟩, ⟨by omega, by omega, by omega⟩, ⟨by omega, by omega⟩, by omega, by omega⟩
/-- what the reference reads as w at this depth -/
def qXo (eX : Nat → Nat × (Nat → Int32)) (tk : Int → t_t) (c : Int) (w : Nat) (rel : Int → Int → (Int → Int) → g_o → Prop) (dp : Int) : Prop := ∀ (p z : Int) (T : Int → Int) (o : g_o), 1 ≤ z → rel p z T o → ∀ (d : Nat) (ρ : Nat → Option xk) (e : Nat) (M : Nat → Int → Int) (R : Nat → Int → Option Nat) (sl : Nat) (Q : xK) (k : Int), qT tk c M p → qBn c M p → M 81 51 = k → 0 ≤ k → k ≤ 5 * (dp - 1) + w → qO eX tk c d Q ρ e M R sl k p z o → ∀ M1, (dp ≤ 12 → qEo k w dp (tk p).2.1 M M1) → (12 < dp → qW (tk p).2.1 M M1) → xm_J tb_P eX tb_K0 174 (d + 13) 45 Q 11 [(0, .inr (.inr (some 82)))] [] (ρ, e, M1, R, sl)
theorem qL_X {eX : Nat → Nat × (Nat → Int32)} {tk : Int → t_t} {c dp : Int} {prev : g_T} (h : qL eX tk c prev dp) {w : Nat} (hw : w ≤ 4) : qXo eX tk c w (prev w) dp := fun p z T o hz hr => h w p z T o hw hz hr
/-- all that is there as a frame of kind w begins -/
def qH (eX : Nat → Nat × (Nat → Int32)) (tk : Int → t_t) (c : Int) (prev : g_T) (dp : Int) (w : Nat) (d : Nat) (Q : xK) (ρ : Nat → Option xk) (e : Nat) (M : Nat → Int → Int) (R : Nat → Int → Option Nat) (sl : Nat) (k p z : Int) (o : g_o) (M1 : Nat → Int → Int) : Prop := (t_S tk c ∧ (∀ j, (eX j).1 ≤ 1000000) ∧ 1 ≤ z) ∧ (qL eX tk c prev (dp + 1) ∧ g_ok c prev) ∧ (1 ≤ dp ∧ dp ≤ 12) ∧ (qT tk c M p ∧ qBn c M p ∧ M 81 51 = k ∧ 0 ≤ k ∧ k ≤ 5 * (dp - 1) + w) ∧ qO eX tk c d Q ρ e M R sl k p z o ∧ qEo k w dp (tk p).2.1 M M1
/-- what its frame is, and what has happened since -/
def qM (tk : Int → t_t) (c : Int) (k w st dp a0 p s u : Int) (M M' : Nat → Int → Int) : Prop := qT tk c M' p ∧ (M' 81 51 = k + 1 ∧ M' 119 k = w ∧ M' 120 k = st ∧ M' 121 k = dp ∧ M' 126 k = a0) ∧ qR k s u M M'
theorem z_ww {x : t_t} (h : t_rel x) (h3 : x.1 = 3) : w_w x.2.2.1 x.2.2.2.2 := by
  unfold t_rel at h
  rcases h with q | q | q | q | q | q
  · omega
  · omega
  · omega
  · exact q.2.2.1
  · omega
  · omega
theorem e_n_b {M : Nat → Int → Int} {T : Int → Int} {D : Int → Prop} {r v : Int} (h : e_n M T D r v) : (0 ≤ r ∧ r < M 81 21 ∧ 700 * M 81 10 ≤ r) ∧ M 102 r = T (v * 9 + 1) := ⟨(e_n_un h).1, (e_n_un h).2.1⟩
/-- a part of what is new -/
theorem e_cc {M2 M' : Nat → Int → Int} {T1 T' : Int → Int} {D : Int → Prop} {lo hi v r n : Int} (hq : qGn M2 M') (hn : e_n M2 T1 (e_D lo hi v) r v) (hv : lo ≤ v ∧ v < hi) (h1 : 1 ≤ v) (hT : ∀ j, lo * 9 ≤ j → j < hi * 9 → j ≠ v * 9 + 7 → j ≠ v * 9 + 8 → T' j = T1 j) (hD : ∀ x, lo ≤ x → x < hi → D x) (hr : M2 81 21 ≤ n) : e_c (e_n M' T') D n r v := by
  have hb := (e_n_b hn).1
  refine ⟨⟨hD v hv.1 hv.2, h1⟩, e_n_d (fun x hx => ⟨hD x hx.1.1 hx.1.2, hx.2⟩) (e_n_t (qN_G hq) (fun x hx i a b => hT _ ?_ ?_ ?_ ?_) (fun i a b => hT _ ?_ ?_ ?_ ?_) hn), hb.1, by omega⟩
  · have := hx.1.1; omega
  · have := hx.1.2; omega
  · have := hx.2; omega
  · have := hx.2; omega
  · omega
  · omega
  · omega
  · omega
section
variable {ρ : Nat → Option xk} {e sl d : Nat} {M : Nat → Int → Int} {R : Nat → Int → Option Nat} {eX : Nat → Nat × (Nat → Int32)} {Q : xK}
variable {tk : Int → t_t} {c p z k dp : Int} {prev : g_T} {o : g_o} {M1 : Nat → Int → Int}
theorem qO_w {a : Int} (h : qO eX tk c d Q ρ e M R sl k p z (.inl a)) {M' : Nat → Int → Int} (h1 : M' 81 8 = 1) (h2 : M' 81 9 = a) (h3 : qGn M M') : xm_J tb_P eX tb_K0 174 (d + 13) 45 Q 11 [(0, .inr (.inr (some 82)))] [] (ρ, e, M', R, sl) := h M' h1 h2 h3
theorem qO_r {p' z' v r s u : Int} {T' : Int → Int} (h : qO eX tk c d Q ρ e M R sl k p z (.inr (p', z', T', v))) {M' : Nat → Int → Int} (hT : qT tk c M' p') (hk : M' 81 51 = k) (hr : M' 81 61 = r) (hR : qR k s u M M') (h1 : s ≤ p' - p) (h2 : u + 1 ≤ p' - p) (hn : e_n M' T' (e_D z z' v) r v) : xm_J tb_P eX tb_K0 174 (d + 13) 45 Q 11 [(0, .inr (.inr (some 82)))] [] (ρ, e, M', R, sl) := h M' r hT hk hr hR.1 hR.2.1 (qR_D hR h1 h2) hn
/-- a frame begins -/
theorem qH_M {w : Nat} (H : qH eX tk c prev dp w d Q ρ e M R sl k p z o M1) : qM tk c k w 0 dp (tk p).2.1 p 0 0 M M1 ∧ M1 122 k = -1 := by
  obtain ⟨-, -, -, ⟨hT, -, -, -, -⟩, -, hE1⟩ := H
  exact ⟨⟨qT_E hT hE1, ⟨hE1.1, hE1.2.1.1, hE1.2.1.2.1, hE1.2.1.2.2.1, hE1.2.1.2.2.2.2⟩, qR_E hE1⟩, hE1.2.1.2.2.2.1⟩
/-- one turn for the frame on top -/
theorem qM_45 {w : Nat} {st a0 q s u : Int} {M' : Nat → Int → Int} (hE : ∀ j, (eX j).1 ≤ 1000000) (hw : w ≤ 4) (hk0 : 0 ≤ k ∧ k < 90) (hM : qM tk c k w st dp a0 q s u M M') (h : xm_call tb_P eX tb_K0 174 (d + 13) (q_me w) [.inr (.inr (some 82)), .inl k] (ρ, e, M', R, sl) (fun o s' => o = .inl none ∧ xm_J tb_P eX tb_K0 174 (d + 13) 45 Q 11 [(0, .inr (.inr (some 82)))] [] s')) : xm_J tb_P eX tb_K0 174 (d + 13) 45 Q 11 [(0, .inr (.inr (some 82)))] [] (ρ, e, M', R, sl) := l_45 hE hw hM.2.1.1 (by omega) (qT_w hM.1) hM.2.1.2.1 h
/-- behind what another frame gave: the frame below is what it was -/
theorem qM_b {w st dp a0 q q2 s u : Int} {N M2 : Nat → Int → Int} (hM : qM tk c k w st dp a0 q s u M N) (hT2 : qT tk c M2 q2) (hk2 : M2 81 51 = k + 1) (hG : qGn N M2) (hF : qFr (k + 1) N M2) (hD : qD N M2 q q2) : qM tk c k w st dp a0 q2 (s + (q2 - q)) (u + (q2 - q - 1)) M M2 := by
  obtain ⟨-, ⟨a1, a2, a3, a4, a5⟩, a6⟩ := hM
  have f : ∀ x, 119 ≤ x → x ≤ 126 → M2 x k = N x k := fun x a b => hF.1 x k a b (by omega)
  exact ⟨hT2, ⟨hk2, (f 119 (by omega) (by omega)).trans a2, (f 120 (by omega) (by omega)).trans a3, (f 121 (by omega) (by omega)).trans a4, (f 126 (by omega) (by omega)).trans a5⟩, qR_tr a6 (qR_le (qR_O hG hF hD) (by omega) (Int.le_refl _) (Int.le_refl _))⟩
/-- a frame writes into itself -/
theorem qM_J {w st st' dp a0 q q2 s u : Int} {N M2 : Nat → Int → Int} (hM : qM tk c k w st dp a0 q s u M N) (hT2 : qT tk c M2 q2) (hJ : qJ k N M2) (h119 : M2 119 k = N 119 k) (h121 : M2 121 k = N 121 k) (h126 : M2 126 k = N 126 k) (h120 : M2 120 k = st') : qM tk c k w st' dp a0 q2 s u M M2 := by
  obtain ⟨-, ⟨a1, a2, a3, a4, a5⟩, a6⟩ := hM
  refine ⟨hT2, ⟨(hJ.2.1 51 (by decide)).trans a1, h119.trans a2, h120, h121.trans a4, h126.trans a5⟩, ?_⟩
  have := qR_tr a6 (qR_J hJ)
  rw [Int.add_zero, Int.add_zero] at this
  exact this
end

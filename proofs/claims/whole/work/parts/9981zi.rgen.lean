/-! THE REFERENCE GOES OVER STEPS: parts, in general -/
theorem rB_go {M0 M M' : Nat → Int → Int} {f tq tq' : Int} {E : k_E} {s s' : k_s} (h : rB M0 M f E s tq) (h1 : ∀ x, 86 ≤ x → x ≤ 137 → (x < 128 ∨ 134 < x) → x ≠ 103 → M' x = M x) (h2 : ∀ j, j = 74 ∨ j = 75 ∨ j = 79 ∨ j = 90 ∨ j = 91 ∨ j = 94 ∨ j = 95 ∨ j = 113 ∨ j = 10 ∨ j = 7 ∨ j = 66 → M' 81 j = M 81 j) (h3 : qS M' s') (h4 : sW s') (h5 : eW (s'.1 0) E) (h6 : M' 103 = s'.2.2.2) (h7 : M' 81 83 = tq') : rB M0 M' f E s' tq' := by
  obtain ⟨a1, a2, ⟨b1, b2, b3, b4⟩, a4, ⟨c1, c2, c3⟩, a6, a7, a8⟩ := h
  exact ⟨fun x x1 x2 x3 => by rw [h1 x x1 (by omega) (by omega) x3]; exact a1 x x1 x2 x3, ⟨by rw [h2 74 (by omega)]; exact a2.1, by rw [h2 75 (by omega)]; exact a2.2⟩, ⟨qE_fr (fun q j q1 _ => by rw [h1 q (by omega) (by omega) (by omega) (by omega)]) (fun j _ => by rw [h1 137 (by decide) (by decide) (by decide) (by decide)]) b1, by rw [h2 90 (by omega)]; exact b2, b3, by rw [h2 79 (by omega)]; exact b4⟩, ⟨by rw [h2 94 (by omega)]; exact a4.1, by rw [h2 95 (by omega)]; exact a4.2.1, by rw [h2 91 (by omega)]; exact a4.2.2⟩, ⟨h3, h4, h5⟩, h6, h7, ⟨by rw [h2 113 (by omega)]; exact a8.1, ⟨by rw [h2 10 (by omega)]; exact a8.2.1, by rw [h2 7 (by omega)]; exact a8.2.2.1, by rw [h2 66 (by omega)]; exact a8.2.2.2⟩⟩⟩
theorem rF1_go {M M' : Nat → Int → Int} {k r st how ty tp ln : Int} (h : rF1 M k r st how ty tp ln) (h1 : ∀ x, x = 147 ∨ x = 148 ∨ x = 149 ∨ x = 150 ∨ x = 151 ∨ x = 155 → M' x k = M x k) : rF1 M' k r st how ty tp ln := by
  obtain ⟨a1, a2, a3, a4, a5, a6⟩ := h
  exact ⟨by rw [h1 147 (by omega)]; exact a1, by rw [h1 148 (by omega)]; exact a2, by rw [h1 149 (by omega)]; exact a3, by rw [h1 150 (by omega)]; exact a4, by rw [h1 151 (by omega)]; exact a5, by rw [h1 155 (by omega)]; exact a6⟩
theorem k_nm_l {pl : Int} {x : Int × Int} : k_nm pl (.inl x) = .inl x := rfl
theorem k_nm_r {pl : Int} {y : k_v} (h : y.2.1 = 1) : k_nm pl (.inr y) = .inl (-6, pl) := by
  show (if y.2.1 = 1 then _ else _) = _
  rw [if_pos h]
theorem k_nm_n {pl : Int} {y : k_v} (h : y.2.1 = 0) : k_nm pl (.inr y) = .inr y := by
  show (if y.2.1 = 1 then _ else _) = _
  rw [if_neg (by omega)]
/-- kind is wanted: what a fault leaves -/
theorem qX_st {M : Nat → Int → Int} {c a f : Int} (hf : M 81 75 = f) : qX c a M (x_up (x_up (x_up M 81 74 c) 81 7 a) 81 66 f) ∧ fC M (x_up (x_up (x_up M 81 74 c) 81 7 a) 81 66 f) := ⟨⟨by simp (disch := decide) only [x_up_o, x_up_s], by simp (disch := decide) only [x_up_o, x_up_s], by rw [x_up_s rfl, hf]⟩, fun z z1 _ _ => by rw [x_up_ne z1, x_up_ne z1, x_up_ne z1], fun j hj => by rw [x_up_o (by omega), x_up_o (by omega), x_up_o (by omega)]⟩
theorem fC_112 {M : Nat → Int → Int} {ln : Int} : fC M (x_up M 81 112 ln) := ⟨fun x x1 _ _ => x_up_ne x1, fun j hj => x_up_o (by omega)⟩
theorem qX_112 {M N : Nat → Int → Int} {c a ln : Int} (h : qX c a (x_up M 81 112 ln) N) : qX c a M N := ⟨h.1, h.2.1, by rw [h.2.2, x_up_o (by decide)]⟩
theorem rB_112 {M0 M : Nat → Int → Int} {f tq ln : Int} {E : k_E} {s : k_s} (h : rB M0 M f E s tq) : rB M0 (x_up M 81 112 ln) f E s tq := rB_fr h (fun _ x1 _ => x_up_ne x1) (fun _ _ j2 => x_up_o j2)
theorem rF1_112 {M : Nat → Int → Int} {k r st how ty tp ln z : Int} (h : rF1 M k r st how ty tp ln) : rF1 (x_up M 81 112 z) k r st how ty tp ln := rF1_go h (fun x hx => by rw [x_up_ne (by omega)])
theorem rU_112 {M : Nat → Int → Int} {k tp z : Int} : rU k tp M (x_up M 81 112 z) := ⟨fun x j x1 x2 _ => by rw [x_up_ne (by omega)], fun j _ => by rw [x_up_ne (by decide)], fun j _ => by rw [x_up_ne (by decide)]⟩
theorem k_nv_neg {pl c a : Int} {s : k_s} (h : k_nv pl s = .inl (c, a)) : c < 0 := by
  unfold k_nv at h
  split at h
  · cases h; decide
  · cases h
theorem k_nw_neg {pl c a : Int} {s : k_s} (h : k_nw pl s = .inl (c, a)) : c < 0 := by
  unfold k_nw at h
  rcases h1 : k_nv pl s with z | z
  · rw [h1] at h
    cases h
    exact k_nv_neg h1
  · rw [h1] at h
    cases h
theorem k_sm_neg {pl c a : Int} {g : Int → Int} {s : k_s} (h : k_sm pl g s = .inl (c, a)) : c < 0 := by
  rw [k_sm_nw] at h
  by_cases hi : k_in 1000000 g 0
  · rw [k_if_t hi] at h
    cases h
  · rw [k_if_f hi] at h
    exact k_nw_neg h
section
variable {ρ : Nat → Option xk} {e sl d : Nat} {M : Nat → Int → Int} {R : Nat → Int → Option Nat} {eX : Nat → Nat × (Nat → Int32)} {Q : xK}
variable {M0 : Nat → Int → Int} {fs f : Int} {L : Nat}
-- a part is gone over
theorem r_in (ih : rLk eX M0 fs f L) {n : Nat} {w : Option k_h} {c t wv r st st' how ty how' ty' k tp tq ln : Int} {E : k_E} {s : k_s} {N M1 : Nat → Int → Int} (hn : 2 * (L : Int) ≤ n + r_w w) (hv : vn M0 L c t wv) (hw : r_t M0 E w how' ty' ln) (hB : rB M0 N f E s tq) (hF : rF1 N k r st how ty tp ln) (h112 : N 81 112 = ln) (hk : 0 ≤ k) (hkt : k + 1 + t ≤ 690) (hlk : ∀ q, w = some q → k + 1 + t ≤ 689) (htq : 0 ≤ tq) (htw : tq + wv ≤ 290) (a1 : rF1 M1 (k + 1) c 0 how' ty' tq ln) (a2 : M1 81 102 = k + 1 + 1) (a3 : ∀ x, x ≠ 81 → (x < 147 ∨ 155 < x) → M1 x = x_up N 148 k st' x) (a4 : ∀ j, j ≠ 102 → M1 81 j = x_up N 148 k st' 81 j) (a5 : ∀ x j, 147 ≤ x → x ≤ 155 → j ≠ k + 1 → M1 x j = x_up N 148 k st' x j) (hK : ∀ y, k_ck M0 fs f n w c E s = .inr y → ∀ M2, rB M0 M2 f E y.1 (tq + r_w w) → rF1 M2 k r st' how ty tp ln → M2 81 102 = k + 1 → rU k tq N M2 → (∀ x, 152 ≤ x → x ≤ 154 → M2 x k = N x k) → (w = none → M2 139 tq = y.2.1 ∧ k_r M2 138 (25 * tq) y.2.2 ∧ k_ok (y.1.1 0) y.2.1 y.2.2) → s.1 0 ≤ y.1.1 0 → fC N M2 → xm_J tb_P eX tb_K0 174 (d + 20) 85 Q 12 [(0, .inr (.inr (some 82)))] [] (ρ, e, M2, R, sl)) (hX : ∀ c' a, k_ck M0 fs f n w c E s = .inl (c', a) → ∀ M2, rX1 c' a N M2 → Q (.inl none) (ρ, e, M2, R, sl)) : xm_J tb_P eX tb_K0 174 (d + 20) 85 Q 12 [(0, .inr (.inr (some 82)))] [] (ρ, e, M1, R, sl) := by
  have c112 : x_up N 81 112 ln = N := x_up_id h112
  rw [← c112] at a3 a4 a5
  obtain ⟨b1, b2, b3, b4⟩ := rEn hB hF a1 a3 a4 a5
  refine ih n w c t wv E s how' ty' ln (k + 1) tq d ρ e M1 R sl Q hn hv hw b1 a1 a2 (by omega) (by omega) hlk htq htw (fun y hy M2 ho => ?_) (fun c' a hy M2 hx => hX c' a hy M2 (rX1_tr b4 hx))
  obtain ⟨o1, o2, o3, o4, o5, o6⟩ := ho
  exact hK y hy M2 o1 (rF1_U b2 o3 (by omega)) o2 (rU_tr b3 o3 (by omega) (Int.le_refl _)) (fun x x1 x2 => by rw [o3.1 x k (by omega) (by omega) (by omega), a5 x k (by omega) (by omega) (by omega), x_up_p (by omega), x_up_p (by omega)]) o4 o5 (fC_tr b4 o6)
-- it has faulted, and enters a part for nothing
theorem r_bd (hE : ∀ j, (eX j).1 ≤ 1000000) {c a k st' : Int} {N M1 : Nat → Int → Int} (hc : c < 0) (hq : qX c a M N) (hf : fC M N) (a3 : ∀ x, x ≠ 81 → (x < 147 ∨ 155 < x) → M1 x = x_up N 148 k st' x) (a4 : ∀ j, j ≠ 102 → M1 81 j = x_up N 148 k st' 81 j) (hX : ∀ M2, rX1 c a M M2 → Q (.inl none) (ρ, e, M2, R, sl)) : xm_J tb_P eX tb_K0 174 (d + 20) 85 Q 12 [(0, .inr (.inr (some 82)))] [] (ρ, e, M1, R, sl) := by
  have g : ∀ j, j ≠ 102 → M1 81 j = N 81 j := fun j hj => by rw [a4 j hj, x_up_p (by decide)]
  refine lx_85 hE (w := c) (by rw [g 74 (by decide)]; exact hq.1) hc (hX M1 ⟨⟨by rw [g 74 (by decide)]; exact hq.1, by rw [g 7 (by decide)]; exact hq.2.1, by rw [g 66 (by decide)]; exact hq.2.2⟩, fC_tr hf ⟨fun x x1 x2 x3 => ?_, fun j hj => g j (by omega)⟩⟩)
  have h1 : M1 x = x_up N 148 k st' x := by
    rcases x3 with x3 | x3
    · exact a3 x x1 (by omega)
    · exact a3 x x1 (by omega)
  rw [h1, x_up_ne (by omega)]
-- it has faulted
theorem r_bx (hE : ∀ j, (eX j).1 ≤ 1000000) {c a : Int} {N : Nat → Int → Int} (hc : c < 0) (hq : qX c a M N) (hf : fC M N) (hX : ∀ M2, rX1 c a M M2 → Q (.inl none) (ρ, e, M2, R, sl)) : xm_J tb_P eX tb_K0 174 (d + 20) 85 Q 12 [(0, .inr (.inr (some 82)))] [] (ρ, e, N, R, sl) := lx_85 hE (w := c) hq.1 hc (hX N ⟨hq, hf⟩)
end

/-! WHAT AN ACCEPTED CHECK LEAVES, for run -/
/-- the code of function f -/
noncomputable def lAc (M0 : Nat → Int → Int) (fs : Nat) (nf : Int → Int) (f : Int) : List (Int × Int) := k_em M0 fs nf ((M0 95 f).toNat + 1) (k_pw M0 f (M0 93 f).toNat) (M0 95 f) 0 ++ [(22, 0)]
def wAc (M : Nat → Int → Int) : Prop := M 0 11 = 1 → M 8 14 = 1 → ∃ (M0 : Nat → Int → Int) (fs : Nat) (nf : Int → Int) (s : k_s), M 0 9 = fs ∧ dY fs M0 M ∧ k_ch M0 fs (fun g => 2 * (M0 95 g).toNat + 2) (k_s0 nf) = .inr s ∧ s.1 4 = 1 ∧ ∀ f : Int, 0 ≤ f → f < fs → (M 156 f = (lAc M0 fs s.2.2.2 f).length ∧ (lAc M0 fs s.2.2.2 f).length ≤ 500) ∧ mL M (1200 * f) 0 (lAc M0 fs s.2.2.2 f) ∧ M 40 f = M0 93 f ∧ M 41 f = (if M0 113 (M0 94 f) = 3 then 1 else 0)
theorem dY_tr {n : Int} {M M1 M2 : Nat → Int → Int} (h1 : dY n M M1) (h2 : dY n M1 M2) : dY n M M2 := by
  obtain ⟨⟨a1, a2, a3⟩, a4, a5, a6, a7, a8, a9⟩ := h1
  obtain ⟨⟨b1, b2, b3⟩, b4, b5, b6, b7, b8, b9⟩ := h2
  exact ⟨⟨fun x i p q r s t u => (b1 x i p q r s t u).trans (a1 x i p q r s t u), fun i p => (b2 i p).trans (a2 i p), fun x i p q => (b3 x i p q).trans (a3 x i p q)⟩, fun x i p q r => (b4 x i p q r).trans (a4 x i p q r), fun x i p q r => (b5 x i p q r).trans (a5 x i p q r), fun x i p q r => (b6 x i p q r).trans (a6 x i p q r), fun x i p q r => (b7 x i p q r).trans (a7 x i p q r), fun x i p q r => (b8 x i p q r).trans (a8 x i p q r), fun i p => (b9 i p).trans (a9 i p)⟩
theorem dY_of {n : Int} {M M' : Nat → Int → Int} (h : ∀ (x : Nat) (j : Int), 86 ≤ x → x ≤ 118 → M' x j = M x j) : dY n M M' := ⟨⟨fun x i p q _ _ _ _ => h x i (by omega) (by omega), fun i _ => h 87 i (by omega) (by omega), fun x i p _ => h x i (by omega) (by omega)⟩, fun x i p q _ => h x i (by omega) (by omega), fun x i p q _ => h x i (by omega) (by omega), fun x i p q _ => h x i (by omega) (by omega), fun x i p q _ => h x i (by omega) (by omega), fun x i p q _ => h x i (by omega) (by omega), fun i _ => h 118 i (by omega) (by omega)⟩
theorem wAc_d {M M' : Nat → Int → Int} (h : wAc M) (hg : gD0 M M') : wAc M' := by
  intro a b
  rcases hg with g | ⟨g1, g2, g3, g4, g5⟩
  · omega
  · rw [g1] at a
    rw [g3] at b
    obtain ⟨M0, fs, nf, s, q1, q2, q3, q4, q5⟩ := h a b
    rw [q1] at g5
    refine ⟨M0, fs, nf, s, by rw [g2]; exact q1, dY_tr q2 g5, q3, q4, fun f f0 f1 => ?_⟩
    obtain ⟨p1, p2, p3, p4⟩ := q5 f f0 f1
    exact ⟨by rw [g4 156 f (by omega)]; exact p1, mL_fr (fun y j y1 y2 _ _ => g4 y j (by omega)) p2, by rw [g4 40 f (by omega)]; exact p3, by rw [g4 41 f (by omega)]; exact p4⟩
theorem wAc_k {M M' : Nat → Int → Int} (h : wAc M) (hg : gK M M') (ht : ∀ (x : Nat) (j : Int), 86 ≤ x → x ≤ 118 → M' x j = M x j) : wAc M' := by
  refine wAc_d h ?_
  rcases hg with g | ⟨g1, g2, g3, g4⟩
  · exact .inl g
  · exact .inr ⟨g1, g2, g3, g4, dY_of ht⟩
/-- what the law's loop keeps -/
def oP (s : xs) : Prop := nP s ∧ wAc s.2.2.1 ∧ nAl s.2.2.1
theorem oP_g : iv_P oP := by
  intro ρ e M R sl ρ' e' M' R' sl' h hg
  exact ⟨nP_g ρ e M R sl ρ' e' M' R' sl' h.1 hg, wAc_k h.2.1 hg.2.2.2.1.2 (fun x j a b => hg.2.2.1 x j (by omega)), nAl_y (n := M 0 9) h.2.2 hg.2.2.2.1.1 hg.2.2.2.1.1 (dY_of (fun x j a b => hg.2.2.1 x j (by omega)))⟩
/-- the reference answers v, and all holds that must hold between calls -/
def cV2 (eX : Nat → Nat × (Nat → Int32)) (t v : Int) (s2 : xs) : Prop := ∀ d, xm_call tb_P eX tb_K0 174 (d + 23) 61 [.inr (.inr (some 82))] s2 (fun oo s' => oo = .inl (some (.inl v)) ∧ iv s' ∧ oP s' ∧ rm t s')
section
variable {ρ : Nat → Option xk} {e sl d : Nat} {M : Nat → Int → Int} {R : Nat → Int → Option Nat} {eX : Nat → Nat × (Nat → Int32)} {Q : xK}
variable {ρ2 : Nat → Option xk} {e2 sl2 fs : Nat} {M2 : Nat → Int → Int} {R2 : Nat → Int → Option Nat}
/-- the reference's check, where its tables are as they were -/
theorem ck_ref (hE : ∀ j, (eX j).1 ≤ 1000000) (hf : fnP (ρ, e, M, R, sl)) (h8 : fs ≤ 8) (h9 : M 0 9 = fs) (h10 : M 81 10 = fs) (eT : ∀ x, 81 ≤ x → x < 174 → M2 x = M x)
  (hlen : ∀ s, k_ch M fs (fun g => 2 * (M 95 g).toNat + 2) (k_s0 (M 103)) = .inr s → s.1 4 = 1 → ∀ g : Int, 0 ≤ g → g < fs → (k_em M fs s.2.2.2 ((M 95 g).toNat + 1) (k_pw M g (M 93 g).toNat) (M 95 g) 0).length ≤ 999)
  (hQ1 : ∀ s, k_ch M fs (fun g => 2 * (M 95 g).toNat + 2) (k_s0 (M 103)) = .inr s → s.1 4 = 0 → ∀ M', qG M' s → M' 81 7 = -1 → M' 81 66 = -1 → M' 81 63 = s.1 3 → M' 81 67 = 0 → (∀ x, x ≠ 81 → x ≠ 103 → (x < 128 ∨ 155 < x) → M' x = M2 x) → (∀ j, cJ j → j ≠ 0 → j ≠ 63 → j ≠ 67 → M' 81 j = M2 81 j) → Q (.inl (some (.inl 0))) (ρ2, e2, M', R2, sl2))
  (hQ2 : ∀ c a g, k_ch M fs (fun g => 2 * (M 95 g).toNat + 2) (k_s0 (M 103)) = .inl (c, a, g) → ∀ M', cX (x_up M2 81 0 0) M' c a g → Q (.inl (some (.inl c))) (ρ2, e2, M', R2, sl2))
  (hQ3 : ∀ s, k_ch M fs (fun g => 2 * (M 95 g).toNat + 2) (k_s0 (M 103)) = .inr s → s.1 4 = 1 → ∀ M', qG M' s → M' 81 7 = -1 → M' 81 66 = -1 → M' 81 63 = s.1 3 → M' 81 67 = 1 → (∀ x, x ≠ 81 → x ≠ 103 → (x < 128 ∨ 155 < x) → M' x = M2 x) → (∀ j, cJ j → j ≠ 0 → j ≠ 63 → j ≠ 67 → M' 81 j = M2 81 j) → ∀ M3, mZs (fun g => k_em M fs s.2.2.2 ((M 95 g).toNat + 1) (k_pw M g (M 93 g).toNat) (M 95 g) 0 ++ [(22, 0)]) fs M' M3 → Q (.inl (some (.inl 1))) (ρ2, e2, M3, R2, sl2)) : xm_call tb_P eX tb_K0 174 (d + 23) 61 [.inr (.inr (some 82))] (ρ2, e2, M2, R2, sl2) Q := by
  have eX : ∀ x, 86 ≤ x → x ≤ 118 → x ≠ 103 → M2 x = M x := fun x a b _ => eT x (by omega) (by omega)
  have eK : ∀ s, k_ch M2 fs (fun g => 2 * (M2 95 g).toNat + 2) (k_s0 (M2 103)) = s → k_ch M fs (fun g => 2 * (M 95 g).toNat + 2) (k_s0 (M 103)) = s := fun s h => by
    rw [k_ch_T eX, eT 95 (by decide) (by decide), eT 103 (by decide) (by decide)] at h
    exact h
  have eM : ∀ (nf : Int → Int) (g : Int), k_em M2 fs nf ((M2 95 g).toNat + 1) (k_pw M2 g (M2 93 g).toNat) (M2 95 g) 0 = k_em M fs nf ((M 95 g).toNat + 1) (k_pw M g (M 93 g).toNat) (M 95 g) 0 := fun nf g => by
    rw [eT 93 (by decide) (by decide), eT 95 (by decide) (by decide), k_pw_T (eT 91 (by decide) (by decide)), k_em_U eX]
  refine y_61w (d := d) (fs := fs) hE h8 (by rw [eT 81 (by decide) (by decide)]; exact h10) (fun g g0 g1 => ?_) rfl (fun s hs h4 g g0 g1 => ?_) (fun s hs => hQ1 s (eK _ hs)) (fun c a g hs => hQ2 c a g (eK _ hs)) (fun s hs h4 M' a1 a2 a3 a4 a5 a6 a7 M3 h3 => ?_)
  · obtain ⟨-, -, -, -, a5, a6⟩ := trS_of hf (by omega) (g := g.toNat) (by omega)
    have e : ((g.toNat : Nat) : Int) = g := by omega
    rw [e] at a6
    exact ⟨_, _, _, a5.2, fR_s eX a6⟩
  · rw [eM]
    exact hlen s (eK _ hs) h4 g g0 g1
  · refine hQ3 s (eK _ hs) h4 M' a1 a2 a3 a4 a5 a6 a7 M3 ?_
    have e : (fun g => k_em M2 fs s.2.2.2 ((M2 95 g).toNat + 1) (k_pw M2 g (M2 93 g).toNat) (M2 95 g) 0 ++ [(22, 0)]) = fun g => k_em M fs s.2.2.2 ((M 95 g).toNat + 1) (k_pw M g (M 93 g).toNat) (M 95 g) 0 ++ [(22, 0)] := funext fun g => by rw [eM]
    rw [e] at h3
    exact h3
end
/-- both codes, side by side -/
theorem oC_mL {C : Int → Int} {M : Nat → Int → Int} {b : Int} : ∀ {l : List (Int × Int)} {p : Int}, oC C p l → mL M b p l → ∀ i, p ≤ i → i < p + l.length → C (2 * i) = M 157 (b + i) + M 159 (b + i) ∧ C (2 * i + 1) = M 158 (b + i) ∧ (M 159 (b + i) = 0 ∧ M 157 (b + i) ≠ 11 ∧ M 157 (b + i) ≠ 13 ∨ M 159 (b + i) = 1 ∧ (M 157 (b + i) = 10 ∨ M 157 (b + i) = 12))
  | [], p, _, _, i, i0, i1 => by rw [List.length_nil] at i1; omega
  | x :: l, p, ⟨h1, h2⟩, ⟨q1, q2⟩, i, i0, i1 => by
    rw [List.length_cons] at i1
    by_cases h : i = p
    · subst h
      obtain ⟨r1, r2, r3, r4, r5⟩ := q1
      refine ⟨by rw [h1.1, r1], by rw [h1.2, r2], ?_⟩
      rcases r5 with r5 | r5
      · exact .inl ⟨r5, r3, r4⟩
      · exact .inr r5
    · exact oC_mL h2 q2 i (by omega) (by omega)

/-! WHAT HOLDS BETWEEN CALLS -/
/-- the text -/
def iv_t (M : Nat → Int → Int) : Prop := M 1 1 = M 81 2 ∧ (0 ≤ M 1 1 ∧ M 1 1 ≤ 480) ∧ ∀ j, 0 ≤ j → j < M 1 1 → M 2 j = M 82 j ∧ 1 ≤ M 82 j ∧ M 82 j ≤ 255
def i_num (v : Int) : Prop := -1000000000 ≤ v ∧ v ≤ 1000000000
/-- slots and values -/
def iv_s (M : Nat → Int → Int) : Prop := (∀ k, 0 ≤ k → k < 6 → M 43 k = M 161 k ∧ M 44 k = M 162 k ∧ (M 161 k = 0 ∨ M 161 k = 1) ∧ i_num (M 162 k) ∧ (M 161 k = 1 → (0 ≤ M 162 k ∧ M 162 k ≤ 40) ∧ ∀ i, 0 ≤ i → i < M 162 k → M 45 (40 * k + i) = M 163 (40 * k + i) ∧ i_num (M 163 (40 * k + i))))
  ∧ ∀ k, 0 ≤ k → k < 4 → M 46 k = M 164 k ∧ i_num (M 164 k)
/-- the desk -/
def iv_d (M : Nat → Int → Int) : Prop := M 55 7 = M 81 143 ∧ (0 ≤ M 55 7 ∧ M 55 7 ≤ 40) ∧ ∀ r, 0 ≤ r → r < M 55 7 → M 60 (25 * r) = M 172 (25 * r + 24) ∧ (-1000000 ≤ M 60 (25 * r) ∧ M 60 (25 * r) ≤ 1000000) ∧ ∀ v, 0 ≤ v → v < 24 → M 60 (25 * r + 1 + v) = M 172 (25 * r + v) ∧ (-1000 ≤ M 60 (25 * r + 1 + v) ∧ M 60 (25 * r + 1 + v) ≤ 1000) ∧ (3 ≤ v → M 60 (25 * r + 1 + v) = 0)
/-- the last place, how many functions -/
def iv_p (M : Nat → Int → Int) : Prop := M 0 10 = M 81 7 ∧ M 0 9 = M 81 10 ∧ 0 ≤ M 0 9 ∧ M 0 9 ≤ 8
/-- the last check -/
def iv_c (M : Nat → Int → Int) : Prop := (M 0 11 = 0 ∨ M 0 11 = 1) ∧ (M 0 11 = 0 → M 81 62 = 0 ∧ M 81 63 = 0 ∧ M 81 64 = 0 ∧ M 81 65 = 0 ∧ M 81 66 = -1 ∧ M 81 67 = 0)
  ∧ (M 0 11 = 1 → M 9 9 = M 81 62 ∧ M 9 10 = M 81 63 ∧ M 8 12 = M 81 64 ∧ M 8 13 = M 81 65 ∧ M 8 4 = M 81 66 ∧ M 8 14 = M 81 67 ∧ (0 ≤ M 9 9 ∧ M 9 9 ≤ 200) ∧ (M 8 14 = 0 ∨ M 8 14 = 1)
    ∧ ∀ k, 0 ≤ k → k < M 9 9 → M 15 (6 * k) = M 128 k ∧ M 15 (6 * k + 1) = M 129 k ∧ M 15 (6 * k + 2) = M 130 k ∧ M 15 (6 * k + 3) = M 131 k ∧ M 15 (6 * k + 4) = M 132 k ∧ M 15 (6 * k + 5) = M 133 k ∧ (M 131 k = 0 ∨ M 131 k = 1))
/-- the last run -/
def iv_m (M : Nat → Int → Int) : Prop := M 54 0 = M 81 135 ∧ M 54 1 = M 81 136 ∧ M 54 2 = M 81 138 ∧ M 54 3 = M 81 139 ∧ M 54 4 = M 81 140 ∧ M 54 5 = M 81 134 ∧ M 54 6 = M 81 141 ∧ M 54 7 = M 81 126
  ∧ 0 ≤ M 54 5 ∧ (∀ k, 0 ≤ k → k < M 54 5 → k < 100 → M 53 k = M 170 k) ∧ M 47 12 = M 81 137 ∧ (M 47 12 < 0 ∨ (M 47 12 + 1 + M 48 (M 47 12) ≤ 600 ∧ 0 ≤ M 48 (M 47 12) ∧ ∀ j, M 47 12 ≤ j → j ≤ M 47 12 + M 48 (M 47 12) → M 48 j = M 165 j))
/-- the code -/
def iv_k (ρ : Nat → Option xk) (e : Nat) (M : Nat → Int → Int) (R : Nat → Int → Option Nat) : Prop := M 0 11 = 1 → M 8 14 = 1 → ∀ f, 0 ≤ f → f < M 0 9 → (∃ p, R 7 f = some p) ∧ ∃ q : Nat, R 38 f = some (q + 175) ∧ q < e ∧ ρ q = some (.inl (0, 1000)) ∧ M 39 f = 2 * M 156 f ∧ (0 ≤ M 156 f ∧ M 156 f ≤ 500)
  ∧ ∀ i, 0 ≤ i → i < M 156 f → M (q + 174) (2 * i) = M 157 (1200 * f + i) + M 159 (1200 * f + i) ∧ M (q + 174) (2 * i + 1) = M 158 (1200 * f + i) ∧ (M 159 (1200 * f + i) = 0 ∧ M 157 (1200 * f + i) ≠ 11 ∧ M 157 (1200 * f + i) ≠ 13 ∨ M 159 (1200 * f + i) = 1 ∧ (M 157 (1200 * f + i) = 10 ∨ M 157 (1200 * f + i) = 12))
/-- the functions -/
def iv_f (_ : Nat → Option xk) (_ : Nat) (_ : Nat → Int → Int) (_ : Nat → Int → Option Nat) : Prop := True
def iv (s : xs) : Prop := iv_t s.2.2.1 ∧ iv_s s.2.2.1 ∧ iv_d s.2.2.1 ∧ iv_p s.2.2.1 ∧ iv_c s.2.2.1 ∧ iv_m s.2.2.1 ∧ iv_k s.1 s.2.1 s.2.2.1 s.2.2.2.1 ∧ iv_f s.1 s.2.1 s.2.2.1 s.2.2.2.1
/-- codes stay as they are, or are no longer there -/
def gK (M M' : Nat → Int → Int) : Prop := M' 0 11 = 0 ∨ (M' 0 11 = M 0 11 ∧ M' 0 9 = M 0 9 ∧ M' 8 14 = M 8 14 ∧ ∀ (x : Nat) (j : Int), (39 ≤ x ∧ x ≤ 41) ∨ (156 ≤ x ∧ x ≤ 159) → M' x j = M x j)
theorem gK_r {M M' : Nat → Int → Int} (h1 : M' 0 11 = M 0 11) (h2 : M' 0 9 = M 0 9) (h3 : M' 8 14 = M 8 14) (h4 : ∀ (x : Nat) (j : Int), (39 ≤ x ∧ x ≤ 41) ∨ (156 ≤ x ∧ x ≤ 159) → M' x j = M x j) : gK M M' := .inr ⟨h1, h2, h3, h4⟩
/-- what calls other than define and check leave as it was of functions, trees and what is made for them -/
def iv_g (ρ : Nat → Option xk) (e : Nat) (M : Nat → Int → Int) (R : Nat → Int → Option Nat) (ρ' : Nat → Option xk) (e' : Nat) (M' : Nat → Int → Int) (R' : Nat → Int → Option Nat) : Prop := (∀ i, i < e → ρ' i = ρ i) ∧ e ≤ e' ∧ (∀ (x : Nat) (j : Int), (86 ≤ x ∧ x ≤ 118) ∨ (174 ≤ x ∧ x < e + 174) → M' x j = M x j) ∧ (M' 0 9 ≤ M 0 9 ∧ gK M M') ∧ ∀ (x : Nat) (i : Int), x < e + 174 → R' x i = R x i
/-- what may be kept besides -/
def iv_P (P : xs → Prop) : Prop := ∀ ρ e M R sl ρ' e' M' R' sl', P (ρ, e, M, R, sl) → iv_g ρ e M R ρ' e' M' R' → P (ρ', e', M', R', sl')
/-- numbers change at a place that none of them looks at -/
theorem iv_up {ρ : Nat → Option xk} {e sl q : Nat} {M : Nat → Int → Int} {R : Nat → Int → Option Nat} {j z : Int} (h : iv (ρ, e, M, R, sl)) (hq : q = 173 ∨ (q = 81 ∧ j = 0)) : iv (ρ, e, x_up M q j z, R, sl) := by
  rcases hq with rfl | ⟨rfl, rfl⟩
  · obtain ⟨h1, h2, h3, h4, h5, h6, h7, h8⟩ := h
    refine ⟨?_, ?_, ?_, ?_, ?_, ?_, ?_, h8⟩
    · simpa (disch := omega) only [iv_t, x_up_p] using h1
    · simpa (disch := omega) only [iv_s, x_up_p] using h2
    · simpa (disch := omega) only [iv_d, x_up_p] using h3
    · simpa (disch := omega) only [iv_p, x_up_p] using h4
    · simpa (disch := omega) only [iv_c, x_up_p] using h5
    · simpa (disch := omega) only [iv_m, x_up_p] using h6
    · simpa (disch := omega) only [iv_k, x_up_p] using h7
  · obtain ⟨h1, h2, h3, h4, h5, h6, h7, h8⟩ := h
    refine ⟨?_, ?_, ?_, ?_, ?_, ?_, ?_, h8⟩
    · simpa (disch := omega) only [iv_t, x_up_p, x_up_o] using h1
    · simpa (disch := omega) only [iv_s, x_up_p, x_up_o] using h2
    · simpa (disch := omega) only [iv_d, x_up_p, x_up_o] using h3
    · simpa (disch := omega) only [iv_p, x_up_p, x_up_o] using h4
    · simpa (disch := omega) only [iv_c, x_up_p, x_up_o] using h5
    · simpa (disch := omega) only [iv_m, x_up_p, x_up_o] using h6
    · simpa (disch := omega) only [iv_k, x_up_p, x_up_o] using h7
/-- a new cell -/
theorem iv_new {ρ : Nat → Option xk} {e sl sl' : Nat} {M : Nat → Int → Int} {R : Nat → Int → Option Nat} {kd : xk} (h : iv (ρ, e, M, R, sl)) : iv (x_new ρ e kd, e + 1, x_zM M (e + 174), x_zR R (e + 174), sl') := by
  obtain ⟨h1, h2, h3, h4, h5, h6, h7, h8⟩ := h
  refine ⟨?_, ?_, ?_, ?_, ?_, ?_, ?_, h8⟩
  · simpa (disch := omega) only [iv_t, x_zM_p] using h1
  · simpa (disch := omega) only [iv_s, x_zM_p] using h2
  · simpa (disch := omega) only [iv_d, x_zM_p] using h3
  · simpa (disch := omega) only [iv_p, x_zM_p] using h4
  · simpa (disch := omega) only [iv_c, x_zM_p] using h5
  · simpa (disch := omega) only [iv_m, x_zM_p] using h6
  · simp (disch := omega) only [iv_k, x_zM_p, x_zR_p]
    intro a b f f0 f1
    have h7 : iv_k ρ e M R := h7
    obtain ⟨⟨p, hp⟩, q, q1, q2, q3, q4, q5, q6⟩ := h7 a b f f0 f1
    refine ⟨⟨p, hp⟩, q, q1, by omega, ?_, q4, q5, fun i i0 i1 => ?_⟩
    · unfold x_new
      rw [if_neg (by omega)]
      exact q3
    · rw [x_zM_p (by omega), x_zM_p (by omega)]
      exact q6 i i0 i1
/-! ROOM -/
def x_cnt (f : Int → Option Nat) : Nat → Int
  | 0 => 0
  | n + 1 => x_cnt f n + (match f (n : Int) with
    | none => 0
    | some _ => 1)
/-- what a shape may still make -/
def x_ps (R : Nat → Int → Option Nat) (r : Option Nat) : Int := match r with
  | none => 13
  | some p => match R (p - 1) 4 with
    | none => 0
    | some g => 2 * (4 - x_cnt (R (g - 1)) 4)
def x_pS (R : Nat → Int → Option Nat) : Nat → Int
  | 0 => 0
  | n + 1 => x_pS R n + x_ps R (R 34 (n : Int))
/-- how many cells may still be made, but for exceptions -/
def x_po (R : Nat → Int → Option Nat) : Int := 2 * (9 - x_cnt (R 7) 9) + 2 * (300 - x_cnt (R 33) 300) + x_pS R 20 + (8 - x_cnt (R 38) 8)
/-- shapes are there -/
def x_wR (e : Nat) (R : Nat → Int → Option Nat) : Prop := ∀ j p, 0 ≤ j → j < 20 → R 34 j = some p → 174 < p ∧ p < e + 175 ∧ ∀ g, R (p - 1) 4 = some g → 174 < g ∧ g < e + 175
theorem x_wR_1 {e : Nat} {R : Nat → Int → Option Nat} (h : x_wR e R) {j : Int} {p : Nat} (h0 : 0 ≤ j) (h1 : j < 20) (hp : R 34 j = some p) : 174 < p ∧ p < e + 175 ∧ ∀ g, R (p - 1) 4 = some g → 174 < g ∧ g < e + 175 := h j p h0 h1 hp
theorem x_wR_2 {e : Nat} {R : Nat → Int → Option Nat} (h : ∀ (j : Int) (p : Nat), 0 ≤ j → j < 20 → R 34 j = some p → 174 < p ∧ p < e + 175 ∧ ∀ g, R (p - 1) 4 = some g → 174 < g ∧ g < e + 175) : x_wR e R := h
/-- there is room for t more calls -/
def rm (t : Int) (s : xs) : Prop := (s.2.1 : Int) + x_po s.2.2.2.1 + t ≤ 1580 ∧ s.2.2.2.2 ≤ 159584 + 4500 * s.2.1 ∧ x_wR s.2.1 s.2.2.2.1
theorem x_cnt_in (f : Int → Option Nat) : ∀ n : Nat, 0 ≤ x_cnt f n ∧ x_cnt f n ≤ n
  | 0 => ⟨Int.le_refl 0, Int.le_refl 0⟩
  | n + 1 => by
    have := x_cnt_in f n
    unfold x_cnt
    split <;> omega
theorem x_pS_0 (R : Nat → Int → Option Nat) : ∀ n : Nat, 0 ≤ x_pS R n
  | 0 => Int.le_refl 0
  | n + 1 => by
    have := x_pS_0 R n
    unfold x_pS
    have : 0 ≤ x_ps R (R 34 (n : Int)) := by
      unfold x_ps
      split
      · decide
      · split
        · decide
        · rename_i g _
          have := x_cnt_in (R (g - 1)) 4
          omega
    omega
theorem x_po_0 (R : Nat → Int → Option Nat) : 0 ≤ x_po R := by
  have h1 := x_cnt_in (R 7) 9
  have h2 := x_cnt_in (R 33) 300
  have h3 := x_cnt_in (R 38) 8
  have h4 := x_pS_0 R 20
  unfold x_po
  omega
theorem x_zR_ne {R : Nat → Int → Option Nat} {q p : Nat} (h : p ≠ q) : x_zR R q p = R p := by
  funext i
  exact x_zR_p h
theorem x_po_z {e : Nat} {R : Nat → Int → Option Nat} (h : x_wR e R) : x_po (x_zR R (e + 174)) = x_po R := by
  have hS : ∀ n : Nat, n ≤ 20 → x_pS (x_zR R (e + 174)) n = x_pS R n := by
    intro n
    induction n with
    | zero => intro _; rfl
    | succ n ih =>
      intro hn
      unfold x_pS
      rw [ih (by omega), x_zR_p (by omega)]
      congr 1
      unfold x_ps
      split
      · rfl
      · rename_i p hp
        obtain ⟨a, b, c⟩ := h n p (by omega) (by omega) hp
        rw [x_zR_p (by omega)]
        split
        · rfl
        · rename_i g hg
          obtain ⟨a2, b2⟩ := c g hg
          rw [x_zR_ne (by omega)]
  unfold x_po
  rw [hS 20 (by omega), x_zR_ne (by omega), x_zR_ne (by omega), x_zR_ne (by omega)]
theorem x_wR_z {e : Nat} {R : Nat → Int → Option Nat} (h : x_wR e R) : x_wR (e + 1) (x_zR R (e + 174)) := by
  intro j p j0 j1 hp
  rw [x_zR_p (by omega)] at hp
  obtain ⟨a, b, c⟩ := h j p j0 j1 hp
  refine ⟨a, by omega, fun g hg => ?_⟩
  rw [x_zR_p (by omega)] at hg
  obtain ⟨a2, b2⟩ := c g hg
  exact ⟨a2, by omega⟩
/-- an exception -/
theorem rm_thr {ρ ρ' : Nat → Option xk} {e sl : Nat} {M M' : Nat → Int → Int} {R : Nat → Int → Option Nat} {t : Int} (h : rm (t + 1) (ρ, e, M, R, sl)) : rm t (ρ', e + 1, M', x_zR R (e + 174), sl + 6) := by
  obtain ⟨h1, h2, h3⟩ := h
  dsimp only at h1 h2 h3
  refine ⟨?_, ?_, x_wR_z h3⟩
  · dsimp only
    rw [x_po_z h3]
    omega
  · dsimp only
    omega
theorem rm_les {ρ ρ' : Nat → Option xk} {e sl : Nat} {M M' : Nat → Int → Int} {R : Nat → Int → Option Nat} {t : Int} (h : rm (t + 1) (ρ, e, M, R, sl)) : rm t (ρ', e, M', R, sl) := by
  obtain ⟨h1, h2, h3⟩ := h
  dsimp only at h1 h2 h3
  exact ⟨by dsimp only; omega, h2, h3⟩
theorem rm_in {ρ : Nat → Option xk} {e sl : Nat} {M : Nat → Int → Int} {R : Nat → Int → Option Nat} {t : Int} (h : rm (t + 1) (ρ, e, M, R, sl)) (ht : 0 ≤ t) : e + 175 ≤ 601024 ∧ sl + 6 ≤ 7293034 := by
  obtain ⟨h1, h2, h3⟩ := h
  dsimp only at h1 h2 h3
  have := x_po_0 R
  omega

/-! A RUN ENDS: what both sides leave -/
section
variable {M M3 N0 N3 : Nat → Int → Int} {f how n E : Int} {S V : m_T}
theorem aC_oo {x : Nat} (h1 : x ≠ 47) (h2 : x ≠ 54) : aC M f E x = M x := by
  unfold aC
  split
  · split
    · rw [x_up_ne h2, x_up_ne h1, x_up_ne h1, x_up_ne h2]
    · rw [x_up_ne h2, x_up_ne h1, x_up_ne h2]
  · rw [x_up_ne h2]
theorem aR_oo {x : Nat} (h1 : x ≠ 81) : aR M f E x = M x := by
  unfold aR
  split
  · split
    · rw [x_up_ne h1, x_up_ne h1, x_up_ne h1, x_up_ne h1]
    · rw [x_up_ne h1, x_up_ne h1, x_up_ne h1, x_up_ne h1]
  · rw [x_up_ne h1]
/-- the class's end -/
def rnC (M M3 : Nat → Int → Int) (f how n E : Int) (V : m_T) : Prop := ∃ M1 M2, cRb n.toNat (bK (x_up M 47 11 how) f) M1 ∧ clG M1 M2 ∧ clE M2 V ∧ (E = 1 → clT M2 V) ∧ M2 54 2 = V 6 7 ∧ eC2 n.toNat (aC M2 f E) M3
/-- the reference's end -/
def rnR (N0 N3 : Nat → Int → Int) (f n E : Int) (S : m_T) : Prop := ∃ N1 N2, bR n.toNat (bM N0 f) N1 ∧ rfG N1 N2 ∧ rfE N2 S ∧ (E = 1 → rfS N2 S) ∧ N2 81 138 = S 6 7 ∧ eR n.toNat (aR N2 f E) N3
theorem rnC_fr (h : rnC M M3 f how n E V) : ∀ x, x ≠ 45 → (x < 47 ∨ 54 < x) → M3 x = M x := by
  obtain ⟨M1, M2, h1, h2, -, -, -, h6⟩ := h
  intro x x1 x2
  rw [h6.1 x x1, aC_oo (by omega) (by omega), h2.1 x (by omega) (by omega), h1.1 x (by omega) (by omega) (by omega), bK_o (by omega) (by omega) (by omega), x_up_ne (by omega)]
/-- what the class tells of a run -/
def tlC (M M3 : Nat → Int → Int) (f n E : Int) (V : m_T) : Prop := (M3 48 = V 4 ∧ M3 53 = V 5) ∧ (M3 54 0 = E ∧ M3 54 2 = V 6 7 ∧ M3 54 3 = V 6 4 ∧ M3 54 4 = V 6 5 ∧ M3 54 5 = V 6 3 ∧ M3 54 6 = V 6 6 ∧ M3 54 7 = V 6 2) ∧ M3 54 1 = (if E = 1 then (if M 41 f = 1 then V 4 (V 0 0) else V 0 0) else 0) ∧ M3 47 12 = (if E = 1 then (if M 41 f = 1 then V 0 0 else -1) else -1) ∧ sv (M 43) (M 44) (V 4) (M 45) (M3 45) n.toNat
theorem rnC_tl (h : rnC M M3 f how n E V) : tlC M M3 f n E V := by
  obtain ⟨M1, M2, h1, h2, ⟨⟨a1, a2⟩, ⟨a3, a4⟩, a5, a6, a7⟩, h4, h5, h6, h7⟩ := h
  have m2 : ∀ x, x ≠ 47 → (x < 48 ∨ 54 < x) → M2 x = M x := fun x x1 x2 => by
    rw [h2.1 x x1 x2, h1.1 x (by omega) (by omega) (by omega), bK_o (by omega) (by omega) (by omega), x_up_ne (by omega)]
  have w1 : M2 47 12 = -1 := by
    rw [h2.2.1 12 (by decide) (by decide) (by decide) (by decide), h1.1 47 (by decide) (by decide) (by decide)]
    exact bK_47.2.2.2.2.1
  have w2 : M2 54 1 = 0 := by
    rw [h2.2.2 1 (by decide), h1.2.1 1 (by decide)]
    exact bK_54.2.1
  rw [aC_oo (by decide) (by decide), aC_oo (by decide) (by decide), aC_oo (by decide) (by decide), aC_oo (by decide) (by decide), m2 43 (by decide) (by omega), m2 44 (by decide) (by omega), m2 45 (by decide) (by omega), a1] at h7
  have e41 : M2 41 f = M 41 f := by rw [m2 41 (by decide) (by omega)]
  have o48 : M3 48 = V 4 := by rw [h6 48 (by decide), aC_oo (by decide) (by decide)]; exact a1
  have o53 : M3 53 = V 5 := by rw [h6 53 (by decide), aC_oo (by decide) (by decide)]; exact a2
  by_cases hE : E = 1
  · obtain ⟨b1, b2⟩ := h4 hE
    by_cases hr : M 41 f = 1
    · have q : aC M2 f E = x_up (x_up (x_up (x_up M2 54 0 1) 47 7 0) 47 12 (M2 49 0)) 54 1 (M2 48 (M2 49 0)) := by
        unfold aC
        rw [if_pos hE, if_pos (by rw [e41]; exact hr)]
      refine ⟨⟨o48, o53⟩, ⟨?_, ?_, ?_, ?_, ?_, ?_, ?_⟩, ?_, ?_, h7⟩
      · rw [h6 54 (by decide), q]; simp (disch := decide) only [x_up_p, x_up_o, x_up_s]; exact hE.symm
      · rw [h6 54 (by decide), q]; simp (disch := decide) only [x_up_p, x_up_o]; exact h5
      · rw [h6 54 (by decide), q]; simp (disch := decide) only [x_up_p, x_up_o]; exact a5
      · rw [h6 54 (by decide), q]; simp (disch := decide) only [x_up_p, x_up_o]; exact a6
      · rw [h6 54 (by decide), q]; simp (disch := decide) only [x_up_p, x_up_o]; exact a4
      · rw [h6 54 (by decide), q]; simp (disch := decide) only [x_up_p, x_up_o]; exact a7
      · rw [h6 54 (by decide), q]; simp (disch := decide) only [x_up_p, x_up_o]; exact a3
      · rw [h6 54 (by decide), q, x_up_s rfl, if_pos hE, if_pos hr, a1, b1]
      · rw [h6 47 (by decide), q, x_up_p (by decide), x_up_s rfl, if_pos hE, if_pos hr, b1]
    · have q : aC M2 f E = x_up (x_up (x_up M2 54 0 1) 47 7 0) 54 1 (M2 49 0) := by
        unfold aC
        rw [if_pos hE, if_neg (by rw [e41]; exact hr)]
      refine ⟨⟨o48, o53⟩, ⟨?_, ?_, ?_, ?_, ?_, ?_, ?_⟩, ?_, ?_, h7⟩
      · rw [h6 54 (by decide), q]; simp (disch := decide) only [x_up_p, x_up_o, x_up_s]; exact hE.symm
      · rw [h6 54 (by decide), q]; simp (disch := decide) only [x_up_p, x_up_o]; exact h5
      · rw [h6 54 (by decide), q]; simp (disch := decide) only [x_up_p, x_up_o]; exact a5
      · rw [h6 54 (by decide), q]; simp (disch := decide) only [x_up_p, x_up_o]; exact a6
      · rw [h6 54 (by decide), q]; simp (disch := decide) only [x_up_p, x_up_o]; exact a4
      · rw [h6 54 (by decide), q]; simp (disch := decide) only [x_up_p, x_up_o]; exact a7
      · rw [h6 54 (by decide), q]; simp (disch := decide) only [x_up_p, x_up_o]; exact a3
      · rw [h6 54 (by decide), q, x_up_s rfl, if_pos hE, if_neg hr, b1]
      · rw [h6 47 (by decide), q, x_up_p (by decide), x_up_o (by decide), x_up_p (by decide), if_pos hE, if_neg hr, w1]
  · have q : aC M2 f E = x_up M2 54 0 E := by
      unfold aC
      rw [if_neg hE]
    refine ⟨⟨o48, o53⟩, ⟨?_, ?_, ?_, ?_, ?_, ?_, ?_⟩, ?_, ?_, h7⟩
    · rw [h6 54 (by decide), q, x_up_s rfl]
    · rw [h6 54 (by decide), q, x_up_o (by decide)]; exact h5
    · rw [h6 54 (by decide), q, x_up_o (by decide)]; exact a5
    · rw [h6 54 (by decide), q, x_up_o (by decide)]; exact a6
    · rw [h6 54 (by decide), q, x_up_o (by decide)]; exact a4
    · rw [h6 54 (by decide), q, x_up_o (by decide)]; exact a7
    · rw [h6 54 (by decide), q, x_up_o (by decide)]; exact a3
    · rw [h6 54 (by decide), q, x_up_o (by decide), if_neg hE, w2]
    · rw [h6 47 (by decide), q, x_up_p (by decide), if_neg hE, w1]
theorem rnR_fr (h : rnR N0 N3 f n E S) : (∀ x, x ≠ 81 → x ≠ 163 → (x < 165 ∨ 171 < x) → N3 x = N0 x) ∧ ∀ j, j < 126 ∨ 141 < j → N3 81 j = N0 81 j := by
  obtain ⟨N1, N2, h1, h2, -, -, -, h6⟩ := h
  refine ⟨fun x x1 x2 x3 => ?_, fun j hj => ?_⟩
  · rw [h6.1 x x2, aR_oo x1, h2.1 x x1 (by omega), h1.1 x x1 (by omega) (by omega) (by omega), bM_o x1 (by omega) (by omega)]
  · have q : aR N2 f E 81 j = N2 81 j := by
      unfold aR
      split
      · split
        · rw [x_up_o (by omega), x_up_o (by omega), x_up_o (by omega), x_up_o (by omega)]
        · rw [x_up_o (by omega), x_up_o (by omega), x_up_o (by omega), x_up_o (by omega)]
      · rw [x_up_o (by omega)]
    have q2 : bM N0 f 81 j = N0 81 j := by
      unfold bM
      simp (disch := omega) only [x_up_p, x_up_o]
    rw [h6.1 81 (by decide), q, h2.2 j (by omega) (by omega) (by omega) (by omega) (by omega) (by omega) (by omega) (by omega), h1.2.1 j (by omega), q2]
/-- what the reference tells of a run -/
def tlR (N0 N3 : Nat → Int → Int) (f n E : Int) (S : m_T) : Prop := (N3 165 = S 4 ∧ N3 170 = S 5) ∧ (N3 81 135 = E ∧ N3 81 138 = S 6 7 ∧ N3 81 139 = S 6 4 ∧ N3 81 140 = S 6 5 ∧ N3 81 134 = S 6 3 ∧ N3 81 141 = S 6 6 ∧ N3 81 126 = S 6 2) ∧ N3 81 136 = (if E = 1 then (if N0 113 (N0 94 f) = 3 then S 4 (S 0 0) else S 0 0) else 0) ∧ N3 81 137 = (if E = 1 then (if N0 113 (N0 94 f) = 3 then S 0 0 else -1) else -1) ∧ sv (N0 161) (N0 162) (S 4) (N0 163) (N3 163) n.toNat
theorem rnR_tl (h : rnR N0 N3 f n E S) : tlR N0 N3 f n E S := by
  obtain ⟨N1, N2, h1, h2, ⟨⟨a1, a2⟩, ⟨a3, a4⟩, a5, a6, a7⟩, h4, h5, h6, h7⟩ := h
  have m2 : ∀ x, x ≠ 81 → (x < 165 ∨ 171 < x) → N2 x = N0 x := fun x x1 x2 => by
    rw [h2.1 x x1 (by omega), h1.1 x x1 (by omega) (by omega) (by omega), bM_o x1 (by omega) (by omega)]
  have w1 : N2 81 137 = -1 := by
    rw [h2.2 137 (by decide) (by decide) (by decide) (by decide) (by decide) (by decide) (by decide) (by decide), h1.2.1 137 (by decide)]
    exact bM_81.2.2.2.2.2.1
  have w2 : N2 81 136 = 0 := by
    rw [h2.2 136 (by decide) (by decide) (by decide) (by decide) (by decide) (by decide) (by decide) (by decide), h1.2.1 136 (by decide)]
    exact bM_81.2.2.2.2.1
  rw [aR_oo (by decide), aR_oo (by decide), aR_oo (by decide), aR_oo (by decide), m2 161 (by decide) (by omega), m2 162 (by decide) (by omega), m2 163 (by decide) (by omega), a1] at h7
  have e41 : N2 113 (N2 94 f) = N0 113 (N0 94 f) := by rw [m2 113 (by decide) (by omega), m2 94 (by decide) (by omega)]
  have o48 : N3 165 = S 4 := by rw [h6 165 (by decide), aR_oo (by decide)]; exact a1
  have o53 : N3 170 = S 5 := by rw [h6 170 (by decide), aR_oo (by decide)]; exact a2
  by_cases hE : E = 1
  · obtain ⟨⟨b1, -⟩, -⟩ := h4 hE
    by_cases hr : N0 113 (N0 94 f) = 3
    · have q : aR N2 f E = x_up (x_up (x_up (x_up N2 81 135 1) 81 128 0) 81 137 (N2 166 0)) 81 136 (N2 165 (N2 166 0)) := by
        unfold aR
        rw [if_pos hE, if_pos (by rw [e41]; exact hr)]
      refine ⟨⟨o48, o53⟩, ⟨?_, ?_, ?_, ?_, ?_, ?_, ?_⟩, ?_, ?_, h7⟩
      · rw [h6 81 (by decide), q]; simp (disch := decide) only [x_up_p, x_up_o, x_up_s]; exact hE.symm
      · rw [h6 81 (by decide), q]; simp (disch := decide) only [x_up_p, x_up_o]; exact h5
      · rw [h6 81 (by decide), q]; simp (disch := decide) only [x_up_p, x_up_o]; exact a5
      · rw [h6 81 (by decide), q]; simp (disch := decide) only [x_up_p, x_up_o]; exact a6
      · rw [h6 81 (by decide), q]; simp (disch := decide) only [x_up_p, x_up_o]; exact a4
      · rw [h6 81 (by decide), q]; simp (disch := decide) only [x_up_p, x_up_o]; exact a7
      · rw [h6 81 (by decide), q]; simp (disch := decide) only [x_up_p, x_up_o]; exact a3
      · rw [h6 81 (by decide), q, x_up_s rfl, if_pos hE, if_pos hr, a1, b1]
      · rw [h6 81 (by decide), q, x_up_o (by decide), x_up_s rfl, if_pos hE, if_pos hr, b1]
    · have q : aR N2 f E = x_up (x_up (x_up (x_up N2 81 135 1) 81 128 0) 81 137 (-1)) 81 136 (N2 166 0) := by
        unfold aR
        rw [if_pos hE, if_neg (by rw [e41]; exact hr)]
      refine ⟨⟨o48, o53⟩, ⟨?_, ?_, ?_, ?_, ?_, ?_, ?_⟩, ?_, ?_, h7⟩
      · rw [h6 81 (by decide), q]; simp (disch := decide) only [x_up_p, x_up_o, x_up_s]; exact hE.symm
      · rw [h6 81 (by decide), q]; simp (disch := decide) only [x_up_p, x_up_o]; exact h5
      · rw [h6 81 (by decide), q]; simp (disch := decide) only [x_up_p, x_up_o]; exact a5
      · rw [h6 81 (by decide), q]; simp (disch := decide) only [x_up_p, x_up_o]; exact a6
      · rw [h6 81 (by decide), q]; simp (disch := decide) only [x_up_p, x_up_o]; exact a4
      · rw [h6 81 (by decide), q]; simp (disch := decide) only [x_up_p, x_up_o]; exact a7
      · rw [h6 81 (by decide), q]; simp (disch := decide) only [x_up_p, x_up_o]; exact a3
      · rw [h6 81 (by decide), q, x_up_s rfl, if_pos hE, if_neg hr, b1]
      · rw [h6 81 (by decide), q, x_up_o (by decide), x_up_s rfl, if_pos hE, if_neg hr]
  · have q : aR N2 f E = x_up N2 81 135 E := by
      unfold aR
      rw [if_neg hE]
    refine ⟨⟨o48, o53⟩, ⟨?_, ?_, ?_, ?_, ?_, ?_, ?_⟩, ?_, ?_, h7⟩
    · rw [h6 81 (by decide), q, x_up_s rfl]
    · rw [h6 81 (by decide), q, x_up_o (by decide)]; exact h5
    · rw [h6 81 (by decide), q, x_up_o (by decide)]; exact a5
    · rw [h6 81 (by decide), q, x_up_o (by decide)]; exact a6
    · rw [h6 81 (by decide), q, x_up_o (by decide)]; exact a4
    · rw [h6 81 (by decide), q, x_up_o (by decide)]; exact a7
    · rw [h6 81 (by decide), q, x_up_o (by decide)]; exact a3
    · rw [h6 81 (by decide), q, x_up_o (by decide), if_neg hE, w2]
    · rw [h6 81 (by decide), q, x_up_o (by decide), if_neg hE, w1]
end
/-! A RUN ENDS: all that holds between calls holds again -/
section
variable {ρ : Nat → Option xk} {e sl : Nat} {M M3 N0 N3 : Nat → Int → Int} {R : Nat → Int → Option Nat} {f how n E : Int} {S V : m_T}
/-- the two machines stopped alike, and well -/
def rnE (M : Nat → Int → Int) (f n E : Int) (S V : m_T) : Prop := bS S V ∧ m_B S ∧ (E = 1 → zE (M 113 (M 94 f) = 3) S) ∧ bP (M 161) (M 162) n.toNat ≤ S 6 2
theorem rn_fr (hC : rnC M M3 f how n E V) (h0 : N0 = x_up (x_up M3 173 0 E) 81 0 0) (hR : rnR N0 N3 f n E S) : (∀ x, x ≠ 45 → (x < 47 ∨ 54 < x) → x ≠ 81 → x ≠ 163 → (x < 165 ∨ 171 < x) → x ≠ 173 → N3 x = M x) ∧ (∀ j, j ≠ 0 → (j < 126 ∨ 141 < j) → N3 81 j = M 81 j) ∧ N3 81 0 = 0 ∧ N3 173 0 = E ∧ ∀ x, 45 ≤ x → x ≤ 54 → N3 x = M3 x := by
  have c := rnC_fr hC
  obtain ⟨r1, r2⟩ := rnR_fr hR
  subst h0
  refine ⟨fun x x1 x2 x3 x4 x5 x6 => ?_, fun j j0 j1 => ?_, ?_, ?_, fun x x0 x1 => ?_⟩
  · rw [r1 x x3 x4 x5, x_up_ne x3, x_up_ne x6, c x x1 x2]
  · rw [r2 j j1, x_up_o j0, x_up_p (by decide), c 81 (by decide) (by omega)]
  · rw [r2 0 (by omega), x_up_s rfl]
  · rw [r1 173 (by decide) (by decide) (by omega), x_up_p (by decide), x_up_s rfl]
  · rw [r1 x (by omega) (by omega) (by omega), x_up_ne (by omega), x_up_ne (by omega)]
theorem rn_iv (h : iv (ρ, e, M, R, sl)) (hn5 : 0 ≤ n ∧ n ≤ 5) (h41 : M 41 f = (if M 113 (M 94 f) = 3 then 1 else 0)) (hC : rnC M M3 f how n E V) (h0 : N0 = x_up (x_up M3 173 0 E) 81 0 0) (hR : rnR N0 N3 f n E S) (hE : rnE M f n E S V) : iv (ρ, e, N3, x_upR R 47 13 (some 38), sl) := by
  obtain ⟨fr, fs, -, -, fc⟩ := rn_fr hC h0 hR
  have cf := rnC_fr hC
  obtain ⟨⟨c1, c2⟩, ⟨c3, c4, c5, c6, c7, c8, c9⟩, c10, c11, c12⟩ := rnC_tl hC
  obtain ⟨⟨r1, r2⟩, ⟨r3, r4, r5, r6, r7, r8, r9⟩, r10, r11, r12⟩ := rnR_tl hR
  obtain ⟨⟨b1, b2, b3, b4, b5, b6⟩, mB, hz, htk⟩ := hE
  have e0 : ∀ x, x ≠ 173 → x ≠ 81 → N0 x = M3 x := fun x x1 x2 => by rw [h0, x_up_ne x2, x_up_ne x1]
  have e1 : ∀ x, x ≠ 45 → (x < 47 ∨ 54 < x) → x ≠ 173 → x ≠ 81 → N0 x = M x := fun x x1 x2 x3 x4 => by rw [e0 x x3 x4, cf x x1 x2]
  rw [e1 161 (by decide) (by omega) (by decide) (by decide), e1 162 (by decide) (by omega) (by decide) (by decide), e1 163 (by decide) (by omega) (by decide) (by decide)] at r12
  rw [e1 113 (by decide) (by omega) (by decide) (by decide), e1 94 (by decide) (by omega) (by decide) (by decide)] at r10 r11
  obtain ⟨h1, h2, h3, h4, h5, h6, h7, h8⟩ := h
  dsimp only at h1 h2 h3 h4 h5 h6 h7
  have rows := sv_alike (j := n.toNat) (tk := S 6 2) h2 (by omega) c12 r12 (fun c c0 c1 => ⟨b5 c c0 c1, mB.2.2.1 c c0 c1⟩) htk
  have e6 : ∀ j, V 6 j = S 6 j := fun j => by rw [b1]
  refine ⟨?_, ?_, ?_, ?_, ?_, ?_, ?_, trivial⟩
  · simpa (disch := omega) only [iv_t, fr, fs] using h1
  · refine ⟨fun k k0 k1 => ?_, fun k k0 k1 => ?_⟩
    · obtain ⟨a1, a2, a3, a4, a5⟩ := h2.1 k k0 k1
      dsimp only
      rw [fr 43 (by decide) (by omega) (by decide) (by decide) (by omega) (by decide), fr 44 (by decide) (by omega) (by decide) (by decide) (by omega) (by decide), fr 161 (by decide) (by omega) (by decide) (by decide) (by omega) (by decide), fr 162 (by decide) (by omega) (by decide) (by decide) (by omega) (by decide), fc 45 (by decide) (by decide)]
      refine ⟨a1, a2, a3, a4, fun r => ⟨(a5 r).1, fun i i0 i1 => ?_⟩⟩
      exact rows k k0 k1 r i i0 i1
    · dsimp only
      rw [fr 46 (by decide) (by omega) (by decide) (by decide) (by omega) (by decide), fr 164 (by decide) (by omega) (by decide) (by decide) (by omega) (by decide)]
      exact h2.2 k k0 k1
  · simpa (disch := omega) only [iv_d, fr, fs] using h3
  · simpa (disch := omega) only [iv_p, fr, fs] using h4
  · simpa (disch := omega) only [iv_c, fr, fs] using h5
  · have p0 : 0 ≤ S 6 3 := mB.2.2.2.2.1.1
    have f54 : N3 54 = M3 54 := fc 54 (by decide) (by decide)
    have f53 : N3 53 = M3 53 := fc 53 (by decide) (by decide)
    have f48 : N3 48 = M3 48 := fc 48 (by decide) (by decide)
    have f47 : N3 47 = M3 47 := fc 47 (by decide) (by decide)
    have ans : N3 54 1 = N3 81 136 ∧ N3 47 12 = N3 81 137 ∧ (N3 47 12 < 0 ∨ (N3 47 12 + 1 + N3 48 (N3 47 12) ≤ 600 ∧ 0 ≤ N3 48 (N3 47 12) ∧ ∀ j, N3 47 12 ≤ j → j ≤ N3 47 12 + N3 48 (N3 47 12) → N3 48 j = N3 165 j)) := by
      rw [f54, f47, f48, c10, c11, r10, r11, c1, r1]
      by_cases hE : E = 1
      · obtain ⟨z1, z2⟩ := hz hE
        have v0 : V 0 0 = S 0 0 := b2 0 (by decide) (by omega)
        rw [if_pos hE, if_pos hE, if_pos hE, if_pos hE, v0]
        by_cases hr : M 113 (M 94 f) = 3
        · rw [if_pos hr] at h41
          obtain ⟨⟨z3, z4⟩, z5⟩ := z2 hr
          have t6 := mB.2.2.2.1
          have v4 : V 4 (S 0 0) = S 4 (S 0 0) := b5 _ z3 (by omega)
          rw [if_pos h41, if_pos hr, if_pos h41, if_pos hr, v4]
          exact ⟨rfl, rfl, .inr ⟨by omega, z4, fun j j0 j1 => b5 j (by omega) (by omega)⟩⟩
        · rw [if_neg hr] at h41
          rw [if_neg (by omega), if_neg hr, if_neg (by omega), if_neg hr]
          exact ⟨rfl, rfl, .inl (by decide)⟩
      · rw [if_neg hE, if_neg hE, if_neg hE, if_neg hE]
        exact ⟨rfl, rfl, .inl (by decide)⟩
    obtain ⟨an1, an2, an3⟩ := ans
    refine ⟨?_, an1, ?_, ?_, ?_, ?_, ?_, ?_, ?_, fun k k0 k1 k2 => ?_, an2, an3⟩
    · dsimp only; rw [f54, c3, r3]
    · dsimp only; rw [f54, c4, r4, e6]
    · dsimp only; rw [f54, c5, r5, e6]
    · dsimp only; rw [f54, c6, r6, e6]
    · dsimp only; rw [f54, c7, r7, e6]
    · dsimp only; rw [f54, c8, r8, e6]
    · dsimp only; rw [f54, c9, r9, e6]
    · dsimp only; rw [f54, c7, e6]; exact p0
    · dsimp only at k1 ⊢
      rw [f54, c7, e6] at k1
      rw [f53, c2, r2]
      exact b6 k k0 k1 k2
  · have f1 : ∀ p i, p ≠ 47 → x_upR R 47 13 (some 38) p i = R p i := fun p i hp => x_upR_p hp
    simpa (disch := omega) only [iv_k, fr, fs, f1] using h7
/-- what is kept besides -/
theorem rn_oP (h : oP (ρ, e, M, R, sl)) (hC : rnC M M3 f how n E V) (h0 : N0 = x_up (x_up M3 173 0 E) 81 0 0) (hR : rnR N0 N3 f n E S) : oP (ρ, e, N3, x_upR R 47 13 (some 38), sl) := by
  obtain ⟨fr, fs, -, -, fc⟩ := rn_fr hC h0 hR
  have f1 : ∀ p i, p ≠ 47 → x_upR R 47 13 (some 38) p i = R p i := fun p i hp => x_upR_p hp
  have hg : iv_g ρ e M R ρ e N3 R := ⟨fun _ _ => rfl, Nat.le_refl _, fun x j hx => by rw [fr x (by omega) (by omega) (by omega) (by omega) (by omega) (by omega)], ⟨by rw [fr 0 (by decide) (by omega) (by decide) (by decide) (by omega) (by decide)]; exact Int.le_refl _, gK_r (by rw [fr 0 (by decide) (by omega) (by decide) (by decide) (by omega) (by decide)]) (by rw [fr 0 (by decide) (by omega) (by decide) (by decide) (by omega) (by decide)]) (by rw [fr 8 (by decide) (by omega) (by decide) (by decide) (by omega) (by decide)]) (fun x j hx => by rw [fr x (by omega) (by omega) (by omega) (by omega) (by omega) (by omega)])⟩, fun _ _ _ => rfl⟩
  obtain ⟨⟨g1, g2⟩, g3, g4⟩ := oP_g ρ e M R sl ρ e N3 R sl h hg
  refine ⟨⟨?_, ?_⟩, g3, g4⟩
  · obtain ⟨a1, a2, a3⟩ := g1
    refine ⟨fun k k0 k1 => ?_, fun k k' q u1 u2 u3 u4 w => ?_, fun k k0 k8 k1 => ?_⟩
    · rcases a1 k k0 k1 with q | ⟨q, q1, ⟨q2, q3, q4⟩, q5⟩
      · exact .inl (by dsimp only at q ⊢; rw [f1 7 k (by decide)]; exact q)
      · exact .inr ⟨q, by dsimp only at q1 ⊢; rw [f1 7 k (by decide)]; exact q1, ⟨q2, q3, by dsimp only at q4 ⊢; rw [f1 (q + 174) 0 (by omega)]; exact q4⟩, q5⟩
    · dsimp only
      rw [f1 7 k (by decide), f1 7 k' (by decide)]
      exact a2 k k' q u1 u2 u3 u4 w
    · obtain ⟨q, q1, q2⟩ := a3 k k0 k8 k1
      exact ⟨q, by dsimp only at q1 ⊢; rw [f1 7 k (by decide)]; exact q1, q2⟩
  · have hr := g2.2.1
    refine hPo_go g2 g1 ⟨fun _ _ => rfl, Nat.le_refl _, fun x i hx => f1 x i (by omega)⟩ (fun k _ _ => .inl (f1 7 k (by decide))) ?_ (fun i => f1 38 i (by decide))
    dsimp only at hr
    unfold iv_r at hr ⊢
    rw [f1 56 0 (by decide), f1 56 1 (by decide), f1 10 0 (by decide), f1 10 1 (by decide)]
    exact hr
theorem rn_rm {t : Int} (h : rm (t + 1) (ρ, e, M, R, sl)) : rm t (ρ, e, N3, x_upR R 47 13 (some 38), sl) := by
  have f1 : ∀ p i, p ≠ 47 → x_upR R 47 13 (some 38) p i = R p i := fun p i hp => x_upR_p hp
  obtain ⟨h1, h2, h3⟩ := h
  dsimp only at h1 h2 h3
  have fS : ∀ n : Nat, n ≤ 20 → x_pS (x_upR R 47 13 (some 38)) n = x_pS R n := by
    intro n
    induction n with
    | zero => intro _; rfl
    | succ n ih =>
      intro hn
      unfold x_pS
      rw [ih (by omega), f1 34 n (by decide)]
      congr 1
      unfold x_ps
      split
      · rfl
      · rename_i p hp
        obtain ⟨a, b, c⟩ := h3 n p (by omega) (by omega) hp
        rw [f1 (p - 1) 4 (by omega)]
        split
        · rfl
        · rename_i g hg
          obtain ⟨a2, b2⟩ := c g hg
          rw [x_cnt_R (fun j => f1 (g - 1) j (by omega)) 4]
  have hp : x_po (x_upR R 47 13 (some 38)) = x_po R := by
    unfold x_po
    rw [fS 20 (by omega), x_cnt_R (fun j => f1 7 j (by decide)) 9, x_cnt_R (fun j => f1 33 j (by decide)) 300, x_cnt_R (fun j => f1 38 j (by decide)) 8]
  refine ⟨?_, h2, ?_⟩
  · dsimp only
    rw [hp]
    omega
  · intro j p j0 j1 hj
    dsimp only at hj ⊢
    rw [f1 34 j (by decide)] at hj
    obtain ⟨a, b, c⟩ := h3 j p j0 j1 hj
    refine ⟨a, b, fun g hg => ?_⟩
    rw [f1 (p - 1) 4 (by omega)] at hg
    exact c g hg
end

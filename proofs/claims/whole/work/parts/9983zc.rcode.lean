/-! THE REFERENCE'S CODE: every node -/
section
variable {ρ : Nat → Option xk} {e sl d : Nat} {M : Nat → Int → Int} {R : Nat → Int → Option Nat} {eX : Nat → Nat × (Nat → Int32)} {Q : xK}
set_option linter.unusedSimpArgs false in
set_option maxRecDepth 100000 in
set_option maxHeartbeats 4000000 in
theorem mS_all (hE : ∀ j, (eX j).1 ≤ 1000000) {fs : Nat} {f : Int} {M0 : Nat → Int → Int} : ∀ L, mS eX fs f M0 L
  | 0 => fun m r t w p k W ρ e M R sl Q d _ hv => hv.elim
  | L + 1 => by
    have ih := mS_all hE (fs := fs) (f := f) (M0 := M0) L
    intro m r t w p k W ρ e M R sl Q d hm hv hd hI hk k0 hkt h147 h148 hp p0 hl h119 hW15 hW hQ
    obtain ⟨m, rfl⟩ : ∃ m', m = m' + 1 := ⟨m - 1, by omega⟩
    have hLm : L ≤ m := by omega
    have hG : mG fs f M0 M k r 0 p W := ⟨hI, hk, h147, h148, hp, h119, hW⟩
    obtain ⟨hr, ⟨t1, w0⟩, hc⟩ := hv
    have k1 : 0 ≤ k ∧ k < 700 := by omega
    obtain ⟨d2, d3, d4, d6, d8, d13, d14⟩ := hd
    rcases hc with c | c | c | c | c | c | c | c | c | c | c | c
    · exact m_0 hE c.1 hr hI hk k1 h147 hp p0 hl h119 hQ
    · exact m_1 hE c hr k1 hG p0 hW15 hl hQ
    · exact m_5 hE c hr k1 hG p0 hW15 hl hQ
    · exact m_2 hE ih hLm c.1 (d2 c.1).1 c.2 (d2 c.1).2 (by omega) hr k1 hG p0 hW15 hl hQ
    · exact m_3 hE ih hLm c.1 (d3 c.1).1 c.2.1 (d3 c.1).2.1 (by omega) c.2.2 (d3 c.1).2.2 (by omega) hr k1 hG p0 hW15 hl hQ
    · exact m_4 hE ih hLm c.1 c.2.2.2.1 c.2.2.2.2.1 c.2.2.2.2.2.2 (d4 c.1) (by omega) hr k1 hG p0 hW15 hl hQ
    · obtain ⟨c | c | c, cv⟩ := c
      · exact m_6 hE ih hLm c cv (d6 (.inl c)) (by omega) hr k1 hG p0 hW15 hl hQ
      · exact m_7 hE ih hLm c cv (d6 (.inr (.inl c))) (by omega) hr k1 hG p0 hW15 hl hQ
      · exact m_15 hE ih hLm c cv (d6 (.inr (.inr (.inr (.inl c))))) (by omega) hr k1 hG p0 hW15 hl hQ
    · obtain ⟨c | c | c | c, cv1, cv2⟩ := c
      · exact m_8 hE ih hLm c cv1 (d8 (.inl c)).1 (by omega) cv2 (d8 (.inl c)).2 (by omega) hr k1 hG p0 hW15 hl hQ
      · exact m_9 hE ih hLm c cv1 (d8 (.inr (.inl c))).1 (by omega) cv2 (d8 (.inr (.inl c))).2 (by omega) hr k1 hG p0 hW15 hl hQ
      · exact m_10 hE ih hLm c cv1 (d8 (.inr (.inr (.inl c)))).1 (by omega) cv2 (d8 (.inr (.inr (.inl c)))).2 (by omega) hr k1 hG p0 hW15 hl hQ
      · exact m_12 hE ih hLm c cv1 (d8 (.inr (.inr (.inr c)))).1 (by omega) cv2 (d8 (.inr (.inr (.inr c)))).2 (by omega) hr k1 hG p0 hW15 hl hQ
    · exact m_11 hE ih hLm c.1 c.2.2 (d6 (.inr (.inr (.inl c.1)))) (by omega) hr k1 hG p0 hW15 hl hQ
    · exact m_13 hE ih hLm c.1 c.2.2.1 (d13 c.1).2.1 (by omega) c.2.2.2 (d13 c.1).2.2 (by omega) (d13 c.1).1 hr k1 hG p0 hW15 hl hQ
    · exact m_14 hE ih hLm c.1 c.2.1 c.2.2.1 (d14 c.1).1 (by omega) c.2.2.2.1 (d14 c.1).2.1 (by omega) c.2.2.2.2.1 (d14 c.1).2.2.1 (by omega) c.2.2.2.2.2 (d14 c.1).2.2.2 (by omega) hr k1 hG p0 hW15 hl hQ
    · exact m_16 hE ih hLm c.1 c.2.2 (d6 (.inr (.inr (.inr (.inr c.1))))) (by omega) hr k1 hG p0 hW15 hl hQ
end

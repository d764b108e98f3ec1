/-! MARKS do not matter: what is the same stays the same; the length of the code -/
section
variable {M : Nat → Int → Int} {T T' : Int → Int}
theorem e_a_M (h : tM T T') {S : e_S} {D : Int → Prop} {r : Int} : ∀ {n : Nat} {b f : Int}, e_a M T S D r n b f → e_a M T' S D r n b f
  | 0, _, _, q => q
  | n + 1, b, f, ⟨q1, q2⟩ => ⟨q1, by rw [tM_nx h]; exact e_a_M h q2⟩
theorem e_i_M (h : tM T T') {lo hi : Int} (hk : ∀ f, 0 ≤ f → ¬ mk6 (T (f * 9 + 0)) ∨ True) : ∀ {n : Nat} {x f : Int}, e_i M T lo hi n x f → e_i M T' lo hi n x f
  | 0, _, _, q => q
  | n + 1, x, f, ⟨q1, ⟨t, l, a, b, c, d⟩, q2⟩ => ⟨q1, ⟨t, l, a, by rw [tM_i h f 5 (by omega) (by omega) (by omega) (by omega)]; exact ixC_M h b, by rw [tM_i h f 1 (by omega) (by omega) (by omega) (by omega)]; exact c, d⟩, by rw [tM_nx h]; exact e_i_M h hk q2⟩
theorem e_h_M (h : tM T T') {S : e_S} {D : Int → Prop} {k : Int} : ∀ {l : List (Int × Int)} {acc f r : Int}, e_h M T S D k l acc f r → e_h M T' S D k l acc f r
  | [], acc, f, r, ⟨q1, q2⟩ => ⟨q1, by rw [tM_nx h]; exact q2⟩
  | (r1, f1) :: l, acc, f, r, ⟨q1, q2, q3, q4⟩ => by
    refine ⟨by rw [tM_nx h]; exact q1, q2, ?_, e_h_M h q4⟩
    have t8 := tM_i h f1 8 (by omega) (by omega) (by omega) (by omega)
    have t0 := tM_i h f1 0 (by omega) (by omega) (by omega) (by omega)
    rw [t8]
    rcases q3 with q | q | ⟨a, ⟨b, b'⟩, c, d, e⟩ | q
    · exact .inl q
    · exact .inr (.inl q)
    · exact .inr (.inr (.inl ⟨a, ⟨b, by rw [t0]; exact b'⟩, c, by rw [h f1 4 (by omega) (by omega) (fun _ => by rw [b']; unfold mk4; omega) (fun q => absurd q (by omega))]; exact d, e⟩))
    · exact .inr (.inr (.inr q))
theorem e_s_M (h : tM T T') {S : e_S} {D : Int → Prop} {r v : Int} (q : e_s M T S D r v) : e_s M T' S D r v := by
  have t0 := tM_i h v 0 (by omega) (by omega) (by omega) (by omega)
  have t1 := tM_i h v 1 (by omega) (by omega) (by omega) (by omega)
  have t2 := tM_i h v 2 (by omega) (by omega) (by omega) (by omega)
  have t3 := tM_i h v 3 (by omega) (by omega) (by omega) (by omega)
  have t5 := tM_i h v 5 (by omega) (by omega) (by omega) (by omega)
  have t4 : ¬ mk4 (T (v * 9 + 0)) → T' (v * 9 + 4) = T (v * 9 + 4) := fun q => h v 4 (by omega) (by omega) (fun _ => q) (fun q => absurd q (by omega))
  have t6 : ¬ mk6 (T (v * 9 + 0)) → T' (v * 9 + 6) = T (v * 9 + 6) := fun q => h v 6 (by omega) (by omega) (fun q => absurd q (by omega)) (fun _ => q)
  obtain ⟨q1, q2, q3⟩ := q
  refine ⟨q1, by rw [t1]; exact q2, ?_⟩
  rw [t0, t1, t2, t3, t5, tM_nx h, tM_nx h, tM_nx h]
  rcases q3 with q | q | q | q | q | q | q | q | ⟨k, r0, l, a, b, c, d⟩ | q | q | q | ⟨a, b, c, lo, hi, x, d, e, f, g⟩
  · exact .inl ⟨q.1, q.2.1, by rw [t4 (by rw [q.2.1]; unfold mk4; omega)]; exact q.2.2.1, q.2.2.2⟩
  · exact .inr (.inl q)
  · exact .inr (.inr (.inl q))
  · exact .inr (.inr (.inr (.inl q)))
  · refine .inr (.inr (.inr (.inr (.inl ?_))))
    obtain ⟨a, b, c, ⟨lo, hi, d, e⟩, f, g, i, j⟩ := q
    exact ⟨a, b, c, ⟨lo, hi, d, by rw [t6 (by rw [b]; unfold mk6; omega)]; exact e_i_M h (fun _ _ => .inr trivial) e⟩, f, g, i, e_a_M h j⟩
  · exact .inr (.inr (.inr (.inr (.inr (.inl q)))))
  · exact .inr (.inr (.inr (.inr (.inr (.inr (.inl q))))))
  · exact .inr (.inr (.inr (.inr (.inr (.inr (.inr (.inl q)))))))
  · exact .inr (.inr (.inr (.inr (.inr (.inr (.inr (.inr (.inl ⟨k, r0, l, a, b, c, e_h_M h d⟩))))))))
  · exact .inr (.inr (.inr (.inr (.inr (.inr (.inr (.inr (.inr (.inl q)))))))))
  · exact .inr (.inr (.inr (.inr (.inr (.inr (.inr (.inr (.inr (.inr (.inl ⟨q.1, q.2.1, by rw [t4 (by rw [q.2.1]; unfold mk4; omega)]; exact q.2.2.1, q.2.2.2⟩))))))))))
  · exact .inr (.inr (.inr (.inr (.inr (.inr (.inr (.inr (.inr (.inr (.inr (.inl q)))))))))))
  · exact .inr (.inr (.inr (.inr (.inr (.inr (.inr (.inr (.inr (.inr (.inr (.inr ⟨a, b, c, lo, hi, x, d, e, by rw [t6 (by rw [b]; unfold mk6; omega)]; exact tyC_M h f, g⟩)))))))))))
theorem e_n_M (h : tM T T') {D : Int → Prop} {r v : Int} (q : e_n M T D r v) : e_n M T' D r v := by
  obtain ⟨S, a, b⟩ := q
  exact ⟨S, a, fun D r v z => e_s_M h (b D r v z)⟩
theorem nmW_M (h : tM T T') {hi : Int} : ∀ {l : List (Int × Int)} {c : Int}, nmW T hi c l → nmW T' hi c l
  | [], _, q => q
  | w :: l, c, ⟨a, b, d⟩ => ⟨a, by rw [tM_i h c 3 (by omega) (by omega) (by omega) (by omega)]; exact b, by rw [tM_nx h]; exact nmW_M h d⟩
theorem paW_M (h : tM T T') {hi : Int} : ∀ {l : List ((Int × Int) × z_T)} {c : Int}, paW T hi c l → paW T' hi c l
  | [], _, q => q
  | y :: l, c, ⟨a, b, d, e⟩ => ⟨a, by rw [tM_i h c 3 (by omega) (by omega) (by omega) (by omega)]; exact b, by rw [tM_i h c 5 (by omega) (by omega) (by omega) (by omega)]; exact tyC_M h d, by rw [tM_nx h]; exact paW_M h e⟩
theorem htc_M (h : tM T T') {P P' : Int → Int → Int → Prop} {E : Int → Prop} {v : Int} (hP : ∀ a b f, P a b f → P' a b f) : ∀ {n : Nat} {lo hi f : Int}, htc T P E v n lo hi f → htc T' P' E v n lo hi f
  | 0, _, _, _, q => q
  | n + 1, _, _, f, ⟨a, b, c, d, e⟩ => ⟨a, b, c, hP _ _ _ d, by rw [tM_nx h]; exact htc_M h hP e⟩
theorem ht_M (h : tM T T') : ∀ {L : Nat} {lo hi v t w : Int}, ht T L lo hi v t w → ht T' L lo hi v t w
  | 0, _, _, _, _, _, q => q
  | L + 1, lo, hi, v, t, w, ⟨a, b, n, c, d⟩ => by
    have t0 := tM_i h v 0 (by omega) (by omega) (by omega) (by omega)
    have t5 := tM_i h v 5 (by omega) (by omega) (by omega) (by omega)
    refine ⟨a, b, n, by rw [t0]; exact c, ?_⟩
    rw [t0, t5]
    exact htc_M h (fun _ _ _ q => ht_M h q) d
-- how long
theorem c_as_l (h : tM T T') {em em' : Int → Int → List (Int × Int)} (he : ∀ f p q, (em' f p).length = (em f q).length) : ∀ {m : Nat} {f p q : Int}, (c_as T' em' m f p).length = (c_as T em m f q).length
  | 0, _, _, _ => rfl
  | m + 1, f, p, q => by
    unfold c_as
    split
    · rfl
    · rw [List.length_append, List.length_append, he f p q, tM_nx h, c_as_l h he (q := q + (em f q).length)]
theorem c_pt_l (h : tM T T') {em em' : Int → Int → List (Int × Int)} (he : ∀ f p q, (em' f p).length = (em f q).length) {k f p q : Int} : (c_pt T' em' k f p).length = (c_pt T em k f q).length := by
  have t8 := tM_i h f 8 (by omega) (by omega) (by omega) (by omega)
  unfold c_pt
  split
  · rw [List.length_cons, List.length_cons, he f (p + 1) (q + 1)]
  · rw [t8]
    split
    · rfl
    · rw [List.length_append, List.length_append, he f p q]
theorem c_cn_l (h : tM T T') {em em' : Int → Int → List (Int × Int)} (he : ∀ f p q, (em' f p).length = (em f q).length) {k : Int} : ∀ {m : Nat} {f p q : Int}, (c_cn T' em' k m f p).length = (c_cn T em k m f q).length
  | 0, _, _, _ => rfl
  | m + 1, f, p, q => by
    unfold c_cn
    split
    · rfl
    · rw [List.length_append, List.length_append, c_pt_l h he (q := q), tM_nx h, c_cn_l h he (q := q + (c_pt T em k f q).length)]
theorem c_em_l (h : tM T T') : ∀ {L : Nat} {v p q : Int}, (c_em T' L v p).length = (c_em T L v q).length
  | 0, _, _, _ => rfl
  | L + 1, v, p, q => by
    have ih : ∀ f p q, (c_em T' L f p).length = (c_em T L f q).length := fun f p q => c_em_l h
    have t0 := tM_i h v 0 (by omega) (by omega) (by omega) (by omega)
    have t5 := tM_i h v 5 (by omega) (by omega) (by omega) (by omega)
    have n := tM_nx h
    obtain ⟨f0, hf0⟩ : ∃ f0, f0 = T (v * 9 + 5) := ⟨_, rfl⟩
    have l0 : ∀ p, (c_em T' L (f0) p).length = (c_em T L (f0) 0).length := fun p => ih _ p 0
    have l0' : ∀ p, (c_em T L (f0) p).length = (c_em T L (f0) 0).length := fun p => (ih _ 0 p).symm.trans (ih _ 0 0)
    have l1 : ∀ p, (c_em T' L (t_nx T f0) p).length = (c_em T L (t_nx T f0) 0).length := fun p => ih _ p 0
    have l1' : ∀ p, (c_em T L (t_nx T f0) p).length = (c_em T L (t_nx T f0) 0).length := fun p => (ih _ 0 p).symm.trans (ih _ 0 0)
    have l2 : ∀ p, (c_em T' L (t_nx T (t_nx T f0)) p).length = (c_em T L (t_nx T (t_nx T f0)) 0).length := fun p => ih _ p 0
    have l2' : ∀ p, (c_em T L (t_nx T (t_nx T f0)) p).length = (c_em T L (t_nx T (t_nx T f0)) 0).length := fun p => (ih _ 0 p).symm.trans (ih _ 0 0)
    have l3 : ∀ p, (c_em T' L (t_nx T (t_nx T (t_nx T f0))) p).length = (c_em T L (t_nx T (t_nx T (t_nx T f0))) 0).length := fun p => ih _ p 0
    have l3' : ∀ p, (c_em T L (t_nx T (t_nx T (t_nx T f0))) p).length = (c_em T L (t_nx T (t_nx T (t_nx T f0))) 0).length := fun p => (ih _ 0 p).symm.trans (ih _ 0 0)
    unfold c_em
    rw [t0, t5, ← hf0]
    by_cases k1 : T (v * 9 + 0) = 1
    · simp only [if_pos k1]; rfl
    · skip
      by_cases k2 : T (v * 9 + 0) = 2
      · simp only [if_pos k2, if_neg k1]; rfl
      · skip
        by_cases k6 : T (v * 9 + 0) = 6
        · simp only [if_pos k6, if_neg k1, if_neg k2]; rfl
        · skip
          by_cases k3 : T (v * 9 + 0) = 3
          · simp only [if_pos k3, if_neg k1, if_neg k2, if_neg k6]
            simp only [List.length_cons, List.length_append, List.length_nil, l0, l0']
          · skip
            by_cases k4 : T (v * 9 + 0) = 4
            · simp only [if_pos k4, if_neg k1, if_neg k2, if_neg k6, if_neg k3]
              simp only [List.length_cons, List.length_append, List.length_nil, n, l0, l0', l1, l1']
            · skip
              by_cases k5 : T (v * 9 + 0) = 5
              · simp only [if_pos k5, if_neg k1, if_neg k2, if_neg k6, if_neg k3, if_neg k4]
                simp only [List.length_cons, List.length_append, List.length_nil, c_as_l h ih (p := p) (q := q)]
              · skip
                by_cases k7 : T (v * 9 + 0) = 7
                · simp only [if_pos k7, if_neg k1, if_neg k2, if_neg k6, if_neg k3, if_neg k4, if_neg k5]
                  simp only [List.length_cons, List.length_append, List.length_nil, l0, l0']
                · skip
                  by_cases k8 : T (v * 9 + 0) = 8
                  · simp only [if_pos k8, if_neg k1, if_neg k2, if_neg k6, if_neg k3, if_neg k4, if_neg k5, if_neg k7]
                    simp only [List.length_cons, List.length_append, List.length_nil, l0, l0']
                  · skip
                    by_cases k9 : T (v * 9 + 0) = 9 ∨ T (v * 9 + 0) = 10
                    · simp only [if_pos k9, if_neg k1, if_neg k2, if_neg k6, if_neg k3, if_neg k4, if_neg k5, if_neg k7, if_neg k8]
                      rw [l0 p, l0' q]
                    · skip
                      by_cases k14 : T (v * 9 + 0) = 14
                      · simp only [if_pos k14, if_neg k1, if_neg k2, if_neg k6, if_neg k3, if_neg k4, if_neg k5, if_neg k7, if_neg k8, if_neg k9]
                        simp only [List.length_cons, List.length_append, n, l0, l0', l1, l1']
                      · skip
                        by_cases k15 : T (v * 9 + 0) = 15
                        · simp only [if_pos k15, if_neg k1, if_neg k2, if_neg k6, if_neg k3, if_neg k4, if_neg k5, if_neg k7, if_neg k8, if_neg k9, if_neg k14]
                          unfold e_if; simp only [List.length_cons, List.length_append, List.length_nil, n, l0, l0', l1, l1', l2, l2', l3, l3']
                        · skip
                          simp only [if_neg k1, if_neg k2, if_neg k6, if_neg k3, if_neg k4, if_neg k5, if_neg k7, if_neg k8, if_neg k9, if_neg k14, if_neg k15]
                          simp only [List.length_append, n, l0, l0', c_cn_l h ih (p := p + (c_em T L f0 0).length) (q := q + (c_em T L f0 0).length)]
end

/-! THE CLASS WORKS OUT: chains; their code -/
/-- the code of part fv (o in the reference), whatever comes later in the tree -/
def cE (fs f : Nat) (tr : Nat → c_t) (M0 : Nat → Int → Int) (W : List Int) (L : Nat) (lo cur : Int) (T' fr : Int → Int) (fv o : Int) : Prop := ∀ T'' fr'' : Int → Int, tM (tr f).2.2 T'' → (∀ j, lo * 9 ≤ j → j < cur * 9 → T'' j = T' j) → (∀ r', aP M0 (tr f).2.2 lo cur r' → fr'' r' = fr r') → ∀ m : Nat, o < m → ∀ p, c_em T'' L fv p = k_em M0 fs fr'' m W o p
section
variable {fs f : Nat} {tr : Nat → c_t} {M0 : Nat → Int → Int} {W : List Int} {L : Nat} {lo cur a b tt w o fv : Int} {D : Int → Prop} {T' T1 fr fr1 : Int → Int}
theorem cE_of (hT : tM (tr f).2.2 T') (hh : ht (tr f).2.2 L a b fv tt w) (he : e_n M0 (tr f).2.2 D o fv) (hab : lo ≤ a ∧ b ≤ cur) (hc : ∀ m : Nat, o < m → ∀ p, c_em T' L fv p = k_em M0 fs fr m W o p) : cE fs f tr M0 W L lo cur T' fr fv o := fun T'' fr'' h1 h2 h3 m hm p => by
  rw [c_em_fr hT h1 p hh (fun j j0 j1 => h2 j (by omega) (by omega)), hc m hm p]
  exact (k_em_fr hh he (fun r' h' => h3 r' (aP_sub h' hab.1 hab.2)) m W p).symm
/-- later changes -/
theorem cE_tr {cur1 : Int} (h : cE fs f tr M0 W L lo cur T' fr fv o) (hc : cur ≤ cur1) (h2 : ∀ j, lo * 9 ≤ j → j < cur * 9 → T1 j = T' j) (h3 : ∀ r', aP M0 (tr f).2.2 lo cur r' → fr1 r' = fr r') : cE fs f tr M0 W L lo cur1 T1 fr1 fv o := fun T'' fr'' q1 q2 q3 m hm p => h T'' fr'' q1 (fun j j0 j1 => (q2 j j0 (by omega)).trans (h2 j j0 j1)) (fun r' hr' => (q3 r' (aP_sub hr' (Int.le_refl _) hc)).trans (h3 r' hr')) m hm p
theorem cE_go (h : cE fs f tr M0 W L lo cur T' fr fv o) (hT : tM (tr f).2.2 T') : ∀ m : Nat, o < m → ∀ p, c_em T' L fv p = k_em M0 fs fr m W o p := h T' fr hT (fun _ _ _ => rfl) (fun _ _ => rfl)
end
/-- parts of a chain behind the first -/
def e_hP (M0 : Nat → Int → Int) (T : Int → Int) (k : Int) (P : Int → Int → Prop) : List (Int × Int) → Prop
  | [] => True
  | x :: l => ((k = 12 ∧ T (x.2 * 9 + 8) = 47) ∨ P (M0 98 x.1) x.2) ∧ e_hP M0 T k P l
theorem e_hP_app {M0 : Nat → Int → Int} {T : Int → Int} {k : Int} {P : Int → Int → Prop} : ∀ {a b : List (Int × Int)}, e_hP M0 T k P (a ++ b) ↔ e_hP M0 T k P a ∧ e_hP M0 T k P b
  | [], b => ⟨fun h => ⟨trivial, h⟩, fun h => h.2⟩
  | x :: a, b => by
    show (_ ∧ e_hP M0 T k P (a ++ b)) ↔ (_ ∧ e_hP M0 T k P a) ∧ e_hP M0 T k P b
    rw [e_hP_app]
    exact ⟨fun h => ⟨⟨h.1, h.2.1⟩, h.2.2⟩, fun h => ⟨h.1.1, h.1.2, h.2⟩⟩
theorem e_hP_mono {M0 : Nat → Int → Int} {T : Int → Int} {k : Int} {P P' : Int → Int → Prop} (h : ∀ a b, P a b → P' a b) : ∀ {l : List (Int × Int)}, e_hP M0 T k P l → e_hP M0 T k P' l
  | [], _ => trivial
  | _ :: _, ⟨a, b⟩ => ⟨a.elim .inl (fun q => .inr (h _ _ q)), e_hP_mono h b⟩
/-- the code of a chain -/
theorem ch_em {M0 : Nat → Int → Int} {T T' : Int → Int} {S : e_S} {D : Int → Prop} {fs L : Nat} {fr : Int → Int} {W : List Int} {k : Int} (hT : tM T T') : ∀ {l : List (Int × Int)} {acc f r : Int} (A : Int → List (Int × Int)) (N : Nat), l.length < N → e_h M0 T S D k l acc f r → e_hP M0 T k (fun o fv => ∀ m : Nat, o < m → ∀ p, c_em T' L fv p = k_em M0 fs fr m W o p) l → (∀ m : Nat, acc < m → ∀ p, A p = k_em M0 fs fr m W acc p) → ∀ m : Nat, r < m → ∀ p, A p ++ c_cn T' (c_em T' L) k N (t_nx T' f) (p + (A p).length) = k_em M0 fs fr m W r p
  | [], acc, f, r, A, N, hN, ⟨h1, h2⟩, _, hA, m, hm, p => by
    obtain ⟨N, rfl⟩ : ∃ N', N = N' + 1 := ⟨N - 1, by rw [List.length_nil] at hN; omega⟩
    rw [tM_nx hT, h2]
    unfold c_cn
    rw [if_pos (by omega), List.append_nil, hA m (by omega) p, h1]
  | (r1, f1) :: l, acc, f, r, A, N, hN, ⟨⟨d1, d2, d3⟩, ⟨d4, d5, d6, d7, d8⟩, d9, d10⟩, ⟨e1, e2⟩, hA, m, hm, p => by
    rw [List.length_cons] at hN
    obtain ⟨N, rfl⟩ : ∃ N', N = N' + 1 := ⟨N - 1, by omega⟩
    have t8 : T' (f1 * 9 + 8) = T (f1 * 9 + 8) := tM_i hT f1 8 (by omega) (by omega) (by omega) (by omega)
    have ih := ch_em (L := L) (fs := fs) (fr := fr) (W := W) hT (l := l) (acc := r1) (f := f1) (r := r) (fun p => A p ++ c_pt T' (c_em T' L) k f1 (p + (A p).length)) N (by omega) d10 e2 (fun m' hm' p => by
      obtain ⟨m', rfl⟩ : ∃ m'', m' = m'' + 1 := ⟨m' - 1, by omega⟩
      have hAp := hA m' (by omega) p
      rcases d9 with ⟨q, q2, q3⟩ | ⟨q, q1, q2, q3⟩ | ⟨q, q1, q2, q3⟩ | ⟨q, q2, q3⟩
      · have ho := e1.resolve_left (fun z => by have z1 := z.1; have z2 := z.2; (try dsimp only at z2); omega) m' (by have := q3.2.2; (try dsimp only); omega)
        rw [k_em_8 (by omega), d4, ← hAp]
        unfold c_pt
        rw [if_neg (by omega), t8, if_neg (by omega), ho, List.append_assoc]
        congr 2
        rcases q2 with ⟨u1, u2⟩ | ⟨u1, u2⟩
        · rw [if_pos u1, u2]; rfl
        · rw [if_neg (by omega), if_pos u1, u2]; rfl
      · have ho := e1.resolve_left (fun z => by have z1 := z.1; have z2 := z.2; (try dsimp only at z2); omega) m' (by have := q3.2.2; (try dsimp only); omega)
        rw [k_em_8 (by omega), d4, ← hAp]
        unfold c_pt
        rw [if_neg (by omega), t8, if_neg (by omega), ho, List.append_assoc]
        congr 2
        rw [if_neg (by omega), if_neg (by omega), q2]; rfl
      · rw [k_em_11 q2, d4, ← hAp]
        unfold c_pt
        rw [if_neg (by omega), t8, if_pos q1.1, q3.1]
        congr 3
        exact hT f1 4 (by omega) (by omega) (fun _ => by rw [q1.2]; unfold mk4; omega) (fun z => absurd z (by omega))
      · have ho := e1.resolve_left (fun z => by have z1 := z.1; have z2 := z.2; (try dsimp only at z2); omega) m' (by have := q3.2.2; (try dsimp only); omega)
        rw [k_em_12 q2, d4, ← hAp]
        unfold c_pt
        rw [if_pos q, ho]) m hm p
    rw [← ih]
    have nx : t_nx T' f = f1 := by rw [tM_nx hT]; exact d1
    rw [nx]
    conv => lhs; rw [c_cn]
    rw [if_neg (by omega), ← List.append_assoc]
    congr 2
    rw [List.length_append]
    omega

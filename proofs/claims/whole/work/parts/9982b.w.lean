/-! THE CLASS CHECKS: what holds meanwhile, what stays -/
/-- marks: of what sort a node is that check writes NUMBER (4) or SECOND (6) of -/
def mk4 (s : Int) : Prop := s = 2 ∨ s = 3 ∨ s = 4 ∨ s = 5 ∨ s = 6 ∨ s = 14
def mk6 (s : Int) : Prop := s = 3 ∨ s = 4
/-- a tree but for marks -/
def tM (T T' : Int → Int) : Prop := ∀ n i, 0 ≤ i → i < 9 → (i = 4 → ¬ mk4 (T (n * 9 + 0))) → (i = 6 → ¬ mk6 (T (n * 9 + 0))) → T' (n * 9 + i) = T (n * 9 + i)
theorem tM_rf {T : Int → Int} : tM T T := fun _ _ _ _ _ _ => rfl
theorem tM_i {T T' : Int → Int} (h : tM T T') (n i : Int) (h0 : 0 ≤ i) (h9 : i < 9) (h4 : i ≠ 4) (h6 : i ≠ 6) : T' (n * 9 + i) = T (n * 9 + i) := h n i h0 h9 (fun q => absurd q h4) (fun q => absurd q h6)
theorem tM_nx {T T' : Int → Int} (h : tM T T') (n : Int) : t_nx T' n = t_nx T n := t_nx_fr (tM_i h n 7 (by omega) (by omega) (by omega) (by omega))
theorem ixC_M {T T' : Int → Int} {lo hi : Int} (h : tM T T') : ∀ {L : List z_t} {c : Int}, ixC T lo hi c L → ixC T' lo hi c L
  | [], _, q => q
  | t :: l, c, ⟨a, b1, b2, b3, b4, b5⟩ => by
    refine ⟨a, ⟨(tM_i h c 0 (by omega) (by omega) (by omega) (by omega)).trans b1.1, (tM_i h c 1 (by omega) (by omega) (by omega) (by omega)).trans b1.2⟩, (tM_i h c 2 (by omega) (by omega) (by omega) (by omega)).trans b2, (tM_i h c 3 (by omega) (by omega) (by omega) (by omega)).trans b3, (h c 4 (by omega) (by omega) (fun _ => ?_) (fun q => absurd q (by omega))).trans b4, ?_⟩
    · rw [b1.1]; unfold mk4; omega
    · rw [tM_nx h]; exact ixC_M h b5
theorem psC_M {T T' : Int → Int} {lo hi : Int} (h : tM T T') : ∀ {L : List z_p} {c : Int}, psC T lo hi c L → psC T' lo hi c L
  | [], _, q => q
  | x :: l, c, ⟨a, b1, b2, b3, b5⟩ => by
    refine ⟨a, ⟨(tM_i h c 0 (by omega) (by omega) (by omega) (by omega)).trans b1.1, (h c 4 (by omega) (by omega) (fun _ => ?_) (fun q => absurd q (by omega))).trans b1.2⟩, ?_, ?_, ?_⟩
    · rw [b1.1]; unfold mk4; omega
    · rw [tM_i h c 5 (by omega) (by omega) (by omega) (by omega)]; exact ixC_M h b2
    · rw [h c 6 (by omega) (by omega) (fun q => absurd q (by omega)) (fun _ => by rw [b1.1]; unfold mk6; omega)]; exact ixC_M h b3
    · rw [tM_nx h]; exact psC_M h b5
theorem tyC_M {T T' : Int → Int} {lo hi c : Int} {x : z_T} (h : tM T T') (q : tyC T lo hi c x) : tyC T' lo hi c x := by
  have t0 := tM_i h c 0 (by omega) (by omega) (by omega) (by omega)
  have t3 := tM_i h c 3 (by omega) (by omega) (by omega) (by omega)
  have t5 := tM_i h c 5 (by omega) (by omega) (by omega) (by omega)
  refine ⟨q.1, ?_⟩
  rw [t0, t3, t5]
  rcases q.2 with q | ⟨a, b, c⟩ | ⟨a, b, c⟩ | ⟨a, b, c, f⟩
  · exact .inl q
  · exact .inr (.inl ⟨a, b, ixC_M h c⟩)
  · exact .inr (.inr (.inl ⟨a, b, ixC_M h c⟩))
  · exact .inr (.inr (.inr ⟨a, b, c, psC_M h f⟩))
/-- how long a chain of terms may be -/
theorem ixC_len {T : Int → Int} {lo hi : Int} (hlo : 1 ≤ lo) : ∀ {L : List z_t} {c : Int}, ixC T lo hi c L → L ≠ [] → c + L.length ≤ hi ∧ 1 ≤ c
  | [], _, _, h => absurd rfl h
  | t :: l, c, ⟨a, _, _, _, _, b5⟩, _ => by
    cases l with
    | nil => rw [List.length_cons, List.length_nil]; omega
    | cons u l =>
      have ih := ixC_len hlo b5 (by simp)
      have hc : t_nx T c = 0 ∨ c < t_nx T c := by
        unfold t_nx
        split
        · exact .inr (by assumption)
        · exact .inl rfl
      rw [List.length_cons]
      omega
/-- the trees: their objects' cells, their numbers, their nodes as they were -/
abbrev c_t : Type := Nat × (Int → Int) × (Int → Int)
def wT (fs : Nat) (tr : Nat → c_t) (ρ : Nat → Option xk) (e : Nat) (M : Nat → Int → Int) (R : Nat → Int → Option Nat) (ow : Nat → Int) : Prop := (∀ k, k < fs → (R 7 (k : Int) = some ((tr k).1 + 175) ∧ c_T ρ R (tr k).1 ∧ (tr k).1 + 2 ≤ e ∧ ow ((tr k).1 + 174) = -1 ∧ ow ((tr k).1 + 175) = -1) ∧ M ((tr k).1 + 174) = (tr k).2.1 ∧ tM (tr k).2.2 (M ((tr k).1 + 175))) ∧ ∀ i j, i < fs → j < fs → i ≠ j → (tr i).1 ≠ (tr j).1
/-- cells that stay as they are while the pool is used from tn on and shapes from st on -/
def wK (e : Nat) (tn st : Int) (ow : Nat → Int) (p : Nat) : Prop := p < e + 174 ∧ (p < 174 → p < 8 ∨ p = 16 ∨ (32 < p ∧ p ≠ 35)) ∧ (174 ≤ p → ow p < tn ∨ (1000 ≤ ow p ∧ ow p < 1000 + 10 * st))
def wRk (e : Nat) (ow : Nat → Int) (p : Nat) : Prop := p < e + 174 ∧ p ≠ 10 ∧ p ≠ 33 ∧ p ≠ 34 ∧ p ≠ 36 ∧ (174 ≤ p → ow p < 1000)
/-- what stays: all but X, the nodes lo to hi of the tree at qt, names from n on -/
def wF (X : Nat → Prop) (qt : Nat) (lo hi n : Int) (e : Nat) (tn st : Int) (ow : Nat → Int) (M : Nat → Int → Int) (R : Nat → Int → Option Nat) (M' : Nat → Int → Int) (R' : Nat → Int → Option Nat) : Prop := (∀ p, wK e tn st ow p → ¬ X p → p ≠ qt → M' p = M p) ∧ (∀ j, 0 ≤ j → j < n → M' 35 j = M 35 j ∧ R' 36 j = R 36 j) ∧ (∀ j, j ≠ 6 → j ≠ 8 → j ≠ 11 → j ≠ 12 → j ≠ 13 → M' 8 j = M 8 j) ∧ (∀ j, j < lo * 9 ∨ hi * 9 ≤ j → M' qt j = M qt j) ∧ ∀ p i, wRk e ow p → R' p i = R p i
/-- what stays when it faults -/
def wFx (qt : Nat) (e : Nat) (ow : Nat → Int) (M : Nat → Int → Int) (R : Nat → Int → Option Nat) (M' : Nat → Int → Int) (R' : Nat → Int → Option Nat) : Prop := (∀ p, wK e 0 0 ow p → p ≠ qt → M' p = M p) ∧ (∀ j, j ≠ 6 → j ≠ 8 → j ≠ 11 → j ≠ 12 → j ≠ 13 → M' 8 j = M 8 j) ∧ ∀ p i, wRk e ow p → R' p i = R p i
def w10 (R : Nat → Int → Option Nat) : Prop := (R 10 0 = some 12 ∧ R 10 1 = some 13) ∨ (R 10 0 = some 13 ∧ R 10 1 = some 12)
/-- it faults: Q must hold of whatever may be left -/
def wX (fs : Nat) (tr : Nat → c_t) (qt : Nat) (w a : Int) (ρ : Nat → Option xk) (e : Nat) (M : Nat → Int → Int) (R : Nat → Int → Option Nat) (sl : Nat) (ow : Nat → Int) (Q : xK) : Prop := ∀ ρ1 e1 R1 sl1 ow1 M', kG ρ e R sl ow ρ1 e1 R1 sl1 ow1 → kHp ρ1 e1 R1 ow1 → wT fs tr ρ1 e1 M' R1 ow1 → M' 9 12 = w → M' 9 13 = a → w10 R1 → wFx qt e ow M R M' R1 → Q (.inr (13, e1 + 175)) (x_new ρ1 e1 (.inr (13, [])), e1 + 1, M', x_zR R1 (e1 + 174), sl1 + 6)
/-- names' cells are there -/
def gB (e : Nat) (ow : Nat → Int) (G : List c_g) : Prop := ∀ g ∈ G, g.2.1 + 2 ≤ e + 174 ∧ ow (g.2.1 + 1) = ow g.2.1
/-- the state: functions fs with trees tr, the f-th is looked at, t calls may follow, s the ground, G names, tn taken of the pool, st shapes -/
def wS (fs : Nat) (tr : Nat → c_t) (f : Nat) (t : Int) (s : k_s) (G : List c_g) (tn st : Int) (ρ : Nat → Option xk) (e : Nat) (M : Nat → Int → Int) (R : Nat → Int → Option Nat) (sl : Nat) (ow : Nat → Int) : Prop :=
  (kHp ρ e R ow ∧ rm t (ρ, e, M, R, sl) ∧ 0 ≤ t) ∧ (M 8 6 = tn ∧ M 8 8 = st ∧ M 8 11 = G.length ∧ M 8 4 = f ∧ M 8 3 = fs) ∧ (0 ≤ tn ∧ tn ≤ 300 ∧ 0 ≤ st ∧ st ≤ 20 ∧ G.length ≤ 24) ∧ (cN ρ M R ow tn G ∧ gB e ow G) ∧ (gS M s ∧ sW s ∧ M 9 6 = 0 ∧ M 9 13 = -1) ∧ (M 8 12 = s.1 5 ∧ M 8 13 = s.1 6) ∧ w10 R ∧ (R 8 1 = some 8 ∧ R 8 2 = some ((tr f).1 + 175) ∧ f < fs) ∧ wT fs tr ρ e M R ow
section
variable {ρ ρ1 ρ2 : Nat → Option xk} {e e1 e2 : Nat} {R R1 R2 : Nat → Int → Option Nat} {sl sl1 sl2 : Nat} {ow ow1 ow2 : Nat → Int} {M M1 M2 : Nat → Int → Int} {X X1 : Nat → Prop} {qt : Nat} {lo hi n lo1 hi1 n1 tn st tn1 st1 : Int}
theorem wK_g (hg : kG ρ e R sl ow ρ1 e1 R1 sl1 ow1) (ht : tn ≤ tn1) (hs : st ≤ st1) {p : Nat} (h : wK e tn st ow p) : wK e1 tn1 st1 ow1 p := by
  obtain ⟨h1, h2, h3⟩ := h
  have he := hg.2.1
  refine ⟨by omega, h2, fun q => ?_⟩
  rw [hg.2.2.2.1 p h1]
  have := h3 q
  omega
theorem wRk_g (hg : kG ρ e R sl ow ρ1 e1 R1 sl1 ow1) {p : Nat} (h : wRk e ow p) : wRk e1 ow1 p := by
  obtain ⟨h1, h2, h3, h4, h5, h6⟩ := h
  have he := hg.2.1
  exact ⟨by omega, h2, h3, h4, h5, fun q => by rw [hg.2.2.2.1 p h1]; exact h6 q⟩
theorem wF_rf : wF X qt lo hi n e tn st ow M R M R := ⟨fun _ _ _ _ => rfl, fun _ _ _ => ⟨rfl, rfl⟩, fun _ _ _ _ _ _ => rfl, fun _ _ => rfl, fun _ _ _ => rfl⟩
theorem wF_tr (hg : kG ρ e R sl ow ρ1 e1 R1 sl1 ow1) (h1 : wF X qt lo hi n e tn st ow M R M1 R1) (h2 : wF X1 qt lo1 hi1 n1 e1 tn1 st1 ow1 M1 R1 M2 R2) (ht : tn ≤ tn1) (hs : st ≤ st1) (hn : n ≤ n1) (hX : ∀ p, wK e tn st ow p → X1 p → X p) (hr : lo1 = hi1 ∨ (lo ≤ lo1 ∧ hi1 ≤ hi)) : wF X qt lo hi n e tn st ow M R M2 R2 := by
  obtain ⟨a1, a2, a3, a4, a5⟩ := h1
  obtain ⟨b1, b2, b3, b4, b5⟩ := h2
  refine ⟨fun p k x q => (b1 p (wK_g hg ht hs k) (fun y => x (hX p k y)) q).trans (a1 p k x q), fun j j0 j1 => ⟨(b2 j j0 (by omega)).1.trans (a2 j j0 j1).1, (b2 j j0 (by omega)).2.trans (a2 j j0 j1).2⟩, fun j c1 c2 c3 c4 c5 => (b3 j c1 c2 c3 c4 c5).trans (a3 j c1 c2 c3 c4 c5), fun j hj => (b4 j (by omega)).trans (a4 j hj), fun p i k => (b5 p i (wRk_g hg k)).trans (a5 p i k)⟩
/-- less is said -/
theorem wF_le (h : wF X qt lo hi n e tn st ow M R M1 R1) (hX : ∀ p, X p → X1 p) (hl : lo = hi ∨ (lo1 ≤ lo ∧ hi ≤ hi1)) (hn : n1 ≤ n) (ht : tn1 ≤ tn) (hs : st1 ≤ st) : wF X1 qt lo1 hi1 n1 e tn1 st1 ow M R M1 R1 := by
  obtain ⟨a1, a2, a3, a4, a5⟩ := h
  exact ⟨fun p ⟨k1, k2, k3⟩ x q => a1 p ⟨k1, k2, fun y => by have := k3 y; omega⟩ (fun y => x (hX p y)) q, fun j j0 j1 => a2 j j0 (by omega), a3, fun j hj => a4 j (by omega), a5⟩
theorem wX_tr {fs : Nat} {tr : Nat → c_t} {w a : Int} {Q : xK} (hg : kG ρ e R sl ow ρ1 e1 R1 sl1 ow1) (hf : wF X qt lo hi n e tn st ow M R M1 R1) (hX : ∀ p, X p → 0 ≤ ow p) (ht : 0 ≤ tn) (hs : 0 ≤ st) (h174 : ∀ p, X p → 174 ≤ p) (h : wX fs tr qt w a ρ e M R sl ow Q) : wX fs tr qt w a ρ1 e1 M1 R1 sl1 ow1 Q := by
  intro ρ2 e2 R2 sl2 ow2 M' g1 g2 g3 g4 g5 g6 g7
  refine h ρ2 e2 R2 sl2 ow2 M' (kG_tr hg g1) g2 g3 g4 g5 g6 ?_
  obtain ⟨a1, a2, a3, a4, a5⟩ := hf
  obtain ⟨b1, b2, b3⟩ := g7
  refine ⟨fun p k q => ?_, fun j c1 c2 c3 c4 c5 => (b2 j c1 c2 c3 c4 c5).trans (a3 j c1 c2 c3 c4 c5), fun p i k => (b3 p i (wRk_g hg k)).trans (a5 p i k)⟩
  rw [b1 p (wK_g hg (Int.le_refl _) (Int.le_refl _) k) q]
  refine a1 p ⟨k.1, k.2.1, fun y => ?_⟩ (fun x => ?_) q
  · have := k.2.2 y; omega
  · have := hX p x
    have := h174 p x
    have := k.2.2 (h174 p x)
    omega
theorem kG_rR (h : rR R R1) : kG ρ e R sl ow ρ e R1 sl ow := ⟨fun _ _ => rfl, Nat.le_refl _, fun x i p _ c2 _ _ c5 => by rw [h.1 x i c2]; exact c5, fun _ _ => rfl, fun t M M' q => rm_c q (fun x i hx => h.1 x i (by omega)) (fun x i a _ => h.1 x i (by omega)) (Nat.le_refl _) (by omega) (by omega)⟩
theorem c_E_R (h : ∀ x i, x ≠ 10 → R1 x i = R x i) {x : Nat} (hx : c_E ρ R x) : c_E ρ R1 x := by
  have := c_E_ge hx
  exact ⟨hx.1, hx.2.1, by rw [h x 0 (by omega)]; exact hx.2.2⟩
theorem kHp_R (hH : kHp ρ e R ow) (h : ∀ x i, x ≠ 10 → x ≠ 36 → x ≠ 8 → R1 x i = R x i) : kHp ρ e R1 ow := by
  obtain ⟨h1, h2, h3⟩ := hH
  have cE : ∀ x, c_E ρ R x → c_E ρ R1 x := fun x hx => by
    have := c_E_ge hx
    exact ⟨hx.1, hx.2.1, by rw [h x 0 (by omega) (by omega) (by omega)]; exact hx.2.2⟩
  refine ⟨fun k k0 k1 => ?_, fun i i0 i1 => ?_, fun i hi => by rw [h 16 _ (by decide) (by decide) (by decide)]; exact h3 i hi⟩
  · rcases h1 k k0 k1 with q | ⟨x, x1, x2, x3, x4⟩
    · exact .inl (by rw [h 33 k (by decide) (by decide) (by decide)]; exact q)
    · exact .inr ⟨x, by rw [h 33 k (by decide) (by decide) (by decide)]; exact x1, cE x x2, x3, x4⟩
  · rcases h2 i i0 i1 with q | ⟨y, y1, ⟨⟨s1, s2, s3, s4⟩, s5, s6, s7⟩, y3, y4, y5⟩
    · exact .inl (by rw [h 34 i (by decide) (by decide) (by decide)]; exact q)
    · refine .inr ⟨y, by rw [h 34 i (by decide) (by decide) (by decide)]; exact y1, ⟨⟨s1, cE _ s2, s3, s4⟩, by rw [h y 1 (by omega) (by omega) (by omega)]; exact s5, by rw [h y 3 (by omega) (by omega) (by omega)]; exact s6, by rw [h y 4 (by omega) (by omega) (by omega)]; exact s7⟩, y3, y4, fun j j0 j1 => ?_⟩
      rcases y5 j j0 j1 with q | ⟨x, x1, x2, x3, x4⟩
      · exact .inl (by rw [h (y + 4) j (by omega) (by omega) (by omega)]; exact q)
      · exact .inr ⟨x, by rw [h (y + 4) j (by omega) (by omega) (by omega)]; exact x1, cE x x2, x3, x4⟩
/-- trees stay what they are -/
theorem wT_go {fs : Nat} {tr : Nat → c_t} (h : wT fs tr ρ e M R ow) (hg : kG ρ e R sl ow ρ1 e1 R1 sl1 ow1) (h7 : ∀ i, R1 7 i = R 7 i) (hM : ∀ k, k < fs → M1 ((tr k).1 + 174) = M ((tr k).1 + 174)) (hT : ∀ k, k < fs → tM (tr k).2.2 (M1 ((tr k).1 + 175))) : wT fs tr ρ1 e1 M1 R1 ow1 := by
  obtain ⟨h1, h2⟩ := h
  refine ⟨fun k hk => ?_, h2⟩
  obtain ⟨⟨a1, a2, a3, a4, a5⟩, a6, a7⟩ := h1 k hk
  have he := hg.2.1
  refine ⟨⟨by rw [h7]; exact a1, c_T_g a2 hg a3, by omega, by rw [hg.2.2.2.1 _ (by omega)]; exact a4, by rw [hg.2.2.2.1 _ (by omega)]; exact a5⟩, by rw [hM k hk]; exact a6, hT k hk⟩
/-- names stay -/
theorem cN_w : ∀ {G : List c_g}, cN ρ M R ow tn G → (∀ i : Nat, i < G.length → M1 35 (i : Int) = M 35 (i : Int) ∧ R1 36 (i : Int) = R 36 (i : Int)) → (∀ g ∈ G, c_E ρ R g.2.1 → 0 ≤ ow g.2.1 → ow g.2.1 < tn → c_E ρ1 R1 g.2.1 ∧ (0 ≤ ow1 g.2.1 ∧ ow1 g.2.1 < tn1) ∧ M1 g.2.1 1 = M g.2.1 1 ∧ M1 (g.2.1 + 1) = M (g.2.1 + 1)) → cN ρ1 M1 R1 ow1 tn1 G
  | [], _, _, _ => trivial
  | g :: l, h, h35, hx => by
    obtain ⟨a, b⟩ := h35 l.length (by rw [List.length_cons]; omega)
    obtain ⟨h1, h2, h3, h4, h5⟩ := h
    obtain ⟨c1, c2, c3, c4⟩ := hx g (List.mem_cons_self ..) h2.1 h2.2.1 h2.2.2
    exact ⟨⟨by rw [a]; exact h1.1, by rw [b]; exact h1.2⟩, ⟨c1, c2⟩, h3, eC_fr h4 c3 c4, cN_w h5 (fun i hi => h35 i (by rw [List.length_cons]; omega)) (fun g hg => hx g (List.mem_cons_of_mem _ hg))⟩
end
theorem cN_m {ρ : Nat → Option xk} {M : Nat → Int → Int} {R : Nat → Int → Option Nat} {ow : Nat → Int} {tn : Int} : ∀ {G : List c_g}, cN ρ M R ow tn G → ∀ g ∈ G, c_E ρ R g.2.1 ∧ (0 ≤ ow g.2.1 ∧ ow g.2.1 < tn) ∧ (g.2.2.1 = 0 ∨ g.2.2.1 = 1) ∧ eC M g.2.1 g.2.2.1 g.2.2.2.1 g.2.2.2.2
  | [], _, _, h => by cases h
  | g :: l, ⟨h1, h2, h3, h4, h5⟩, x, hx => by
    rcases List.mem_cons.mp hx with rfl | hx
    · exact ⟨h2.1, h2.2, h3, h4⟩
    · exact cN_m h5 x hx
section
variable {fs f : Nat} {tr : Nat → c_t} {t : Int} {s s' : k_s} {G : List c_g} {ρ ρ1 : Nat → Option xk} {e e1 : Nat} {R R1 : Nat → Int → Option Nat} {sl sl1 : Nat} {ow ow1 : Nat → Int} {M M1 : Nat → Int → Int} {X : Nat → Prop} {lo hi n tn st tn1 st1 : Int}
/-- the state goes on -/
theorem wS_go (hS : wS fs tr f t s G tn st ρ e M R sl ow) (hg : kG ρ e R sl ow ρ1 e1 R1 sl1 ow1) (hH : kHp ρ1 e1 R1 ow1) (hf : wF X ((tr f).1 + 175) lo hi n e tn st ow M R M1 R1) (hn : (G.length : Int) ≤ n) (hX : ∀ g ∈ G, ¬ X g.2.1 ∧ ¬ X (g.2.1 + 1)) (hX0 : ∀ p, X p → 174 ≤ p ∧ 0 ≤ ow p) (h8 : M1 8 6 = tn1 ∧ M1 8 8 = st1 ∧ M1 8 11 = G.length) (hb : tn ≤ tn1 ∧ tn1 ≤ 300 ∧ 0 ≤ st1 ∧ st1 ≤ 20) (hgs : gS M1 s' ∧ sW s' ∧ M1 9 6 = 0 ∧ M1 9 13 = -1) (h12 : M1 8 12 = s'.1 5 ∧ M1 8 13 = s'.1 6) (h10 : w10 R1) (htm : tM (tr f).2.2 (M1 ((tr f).1 + 175))) : wS fs tr f t s' G tn1 st1 ρ1 e1 M1 R1 sl1 ow1 := by
  obtain ⟨⟨a1, a2, a3⟩, ⟨b1, b2, b3, b4, b5⟩, ⟨c1, c2, c3, c4, c5⟩, ⟨d1, d2⟩, ⟨g1, g2, g3⟩, i1, j1, ⟨k1, k2, k3⟩, l1⟩ := hS
  obtain ⟨f1, f2, f3, f4, f5⟩ := hf
  have he := hg.2.1
  have og := hg.2.2.2.1
  refine ⟨⟨hH, hg.2.2.2.2 t M M1 a2, a3⟩, ⟨h8.1, h8.2.1, h8.2.2, by rw [f3 4 (by decide) (by decide) (by decide) (by decide) (by decide)]; exact b4, by rw [f3 3 (by decide) (by decide) (by decide) (by decide) (by decide)]; exact b5⟩, ⟨by omega, by omega, by omega, by omega, c5⟩, ⟨cN_w d1 (fun i hi => f2 i (by omega) (by omega)) (fun g hgm e1' o0 o1 => ?_), fun g hgm => ?_⟩, hgs, h12, h10, ⟨by rw [f5 8 1 ⟨by omega, by decide, by decide, by decide, by decide, fun q => absurd q (by decide)⟩]; exact k1, by rw [f5 8 2 ⟨by omega, by decide, by decide, by decide, by decide, fun q => absurd q (by decide)⟩]; exact k2, k3⟩, ?_⟩
  · obtain ⟨q1, q2⟩ := d2 g hgm
    obtain ⟨x1, x2⟩ := hX g hgm
    have hge := c_E_ge e1'
    have nt : g.2.1 ≠ (tr f).1 + 175 ∧ g.2.1 + 1 ≠ (tr f).1 + 175 := by
      obtain ⟨⟨-, u2, -⟩, -⟩ := l1.1 f k3
      have := c_T_E u2 e1'
      omega
    exact ⟨c_E_g e1' hg q1, by rw [og _ (by omega)]; omega, by rw [f1 g.2.1 ⟨by omega, by omega, fun _ => .inl o1⟩ x1 nt.1], f1 (g.2.1 + 1) ⟨by omega, by omega, fun _ => .inl (by rw [q2]; exact o1)⟩ x2 nt.2⟩
  · obtain ⟨q1, q2⟩ := d2 g hgm
    exact ⟨by omega, by rw [og _ (by omega), og _ (by omega)]; exact q2⟩
  · have tc : ∀ k, k < fs → wK e tn st ow ((tr k).1 + 174) ∧ wK e tn st ow ((tr k).1 + 175) ∧ ¬ X ((tr k).1 + 174) ∧ ¬ X ((tr k).1 + 175) ∧ (tr k).1 + 174 ≠ (tr f).1 + 175 := fun k hk => by
      obtain ⟨⟨u1, u2, u3, u4, u5⟩, u6, u7⟩ := l1.1 k hk
      obtain ⟨⟨v1, v2, v3, v4, v5⟩, v6, v7⟩ := l1.1 f k3
      refine ⟨⟨by omega, by omega, fun _ => .inl (by omega)⟩, ⟨by omega, by omega, fun _ => .inl (by omega)⟩, fun q => ?_, fun q => ?_, fun q => ?_⟩
      · have := (hX0 _ q).2; omega
      · have := (hX0 _ q).2; omega
      · have z1 := u2.1
        rw [show (tr k).1 = (tr f).1 + 1 by omega, v2.2.1] at z1
        cases z1
    refine wT_go l1 hg (fun i => f5 7 i ⟨by omega, by decide, by decide, by decide, by decide, fun q => absurd q (by decide)⟩) (fun k hk => ?_) (fun k hk => ?_)
    · obtain ⟨w1, w2, w3, w4, w5⟩ := tc k hk
      exact f1 _ w1 w3 w5
    · by_cases hkf : k = f
      · subst hkf; exact htm
      · obtain ⟨w1, w2, w3, w4, w5⟩ := tc k hk
        have := l1.2 k f hk k3 hkf
        rw [f1 _ w2 w4 (by omega)]
        exact (l1.1 k hk).2.2
/-- a fault, told at once -/
theorem wX_go {w a : Int} {Q : xK} (hS : wS fs tr f t s G tn st ρ e M R sl ow) (hX : wX fs tr ((tr f).1 + 175) w a ρ e M R sl ow Q) (hR : rR R R1) (hM : ∀ p, wK e 0 0 ow p → M1 p = M p) (h8 : M1 8 = M 8) (hw : M1 9 12 = w) (ha : M1 9 13 = a) : Q (.inr (13, e + 175)) (x_new ρ e (.inr (13, [])), e + 1, M1, x_zR R1 (e + 174), sl + 6) := by
  obtain ⟨⟨a1, a2, a3⟩, ⟨b1, b2, b3, b4, b5⟩, ⟨c1, c2, c3, c4, c5⟩, ⟨d1, d2⟩, ⟨g1, g2, g3⟩, i1, j1, ⟨k1, k2, k3⟩, l1⟩ := hS
  have hg : kG ρ e R sl ow ρ e R1 sl ow := kG_rR hR
  have kt : ∀ k, k < fs → wK e 0 0 ow ((tr k).1 + 174) ∧ wK e 0 0 ow ((tr k).1 + 175) := fun k hk => by
    obtain ⟨⟨u1, u2, u3, u4, u5⟩, u6, u7⟩ := l1.1 k hk
    exact ⟨⟨by omega, by omega, fun _ => .inl (by omega)⟩, ⟨by omega, by omega, fun _ => .inl (by omega)⟩⟩
  exact hX ρ e R1 sl ow M1 hg (kHp_R a1 (fun x i h _ _ => hR.1 x i h)) (wT_go l1 hg (fun i => hR.1 7 i (by decide)) (fun k hk => hM _ (kt k hk).1) (fun k hk => by rw [hM _ (kt k hk).2]; exact (l1.1 k hk).2.2)) hw ha hR.2 ⟨fun p k _ => hM p k, fun j _ _ _ _ _ => by rw [h8], fun p i k => hR.1 p i k.2.1⟩
end
theorem rR_rf {R : Nat → Int → Option Nat} (h : w10 R) : rR R R := ⟨fun _ _ _ => rfl, h⟩
section
variable {ρ : Nat → Option xk} {e sl d : Nat} {M : Nat → Int → Int} {R : Nat → Int → Option Nat} {eX : Nat → Nat × (Nat → Int32)} {Q : xK}
variable {ow : Nat → Int} {fs f : Nat} {tr : Nat → c_t} {t : Int} {s : k_s} {G : List c_g} {tn st : Int}
/-- one of the pool is taken -/
theorem w_265r (hE : ∀ j, (eX j).1 ≤ 1000000) (hS : wS fs tr f t s G tn st ρ e M R sl ow) (ht : tn < 300) (hQ : ∀ ρ1 e1 M1 R1 sl1 ow1 x, kG ρ e R sl ow ρ1 e1 R1 sl1 ow1 → wS fs tr f t s G (tn + 1) st ρ1 e1 M1 R1 sl1 ow1 → wF (fun _ => False) ((tr f).1 + 175) 0 0 G.length e tn st ow M R M1 R1 → c_E ρ1 R1 x → (ow1 x = tn ∧ ow1 (x + 1) = tn) → x + 2 ≤ e1 + 174 → (∀ g ∈ G, g.2.1 ≠ x) → R1 33 tn = some (x + 1) → Q (.inl (some (.inr (.inr (some (x + 1)))))) (ρ1, e1, M1, R1, sl1)) : xm_call tb_P eX tb_K0 174 (d + 3) 265 [.inr (.inr (some 9))] (ρ, e, M, R, sl) Q := by
  have hS' := hS
  obtain ⟨⟨a1, a2, a3⟩, ⟨b1, b2, b3, b4, b5⟩, ⟨c1, c2, c3, c4, c5⟩, ⟨d1, d2⟩, ⟨g1, g2, g3⟩, i1, j1, ⟨k1, k2, k3⟩, l1⟩ := hS
  refine n_265 (n := tn) (t := t) hE b1 ⟨c1, ht⟩ a1 a2 a3 (fun ρ1 e1 M1 R1 sl1 ow1 x hg hH hR hx ho hxe hf h6 hr => ?_)
  have hRf : ∀ p i, wRk e ow p → R1 p i = R p i := fun p i hp => hr p i hp.1 hp.2.2.1
  have hfr : wF (fun _ => False) ((tr f).1 + 175) 0 0 G.length e tn st ow M R M1 R1 := ⟨fun p k _ _ => hf.1 p (fun q => by have := k.2.1; omega) k.1, fun j j0 j1 => ⟨by rw [hf.1 35 (by decide) (by omega)], hr 36 j (by omega) (by decide)⟩, fun j c _ _ _ _ => hf.2 j c, fun j _ => by
    obtain ⟨⟨u1, u2, u3, u4, u5⟩, u6, u7⟩ := l1.1 f k3
    rw [hf.1 _ (by omega) (by omega)], hRf⟩
  have m9 : M1 9 = M 9 := hf.1 9 (by decide) (by omega)
  refine hQ ρ1 e1 M1 R1 sl1 ow1 x hg (wS_go hS' hg hH hfr (Int.le_refl _) (fun g _ => ⟨fun q => q, fun q => q⟩) (fun p q => q.elim) ⟨h6, by rw [hf.2 8 (by decide)]; exact b2, by rw [hf.2 11 (by decide)]; exact b3⟩ (by omega) ⟨gS_fr g1 (fun j _ _ => by rw [m9]) (hf.1 14 (by decide) (by omega)) (hf.1 15 (by decide) (by omega)), g2, by rw [m9]; exact g3⟩ ⟨by rw [hf.2 12 (by decide)]; exact i1.1, by rw [hf.2 13 (by decide)]; exact i1.2⟩ ?_ ?_) hfr hx ho hxe (fun g hgm q => ?_) hR
  · unfold w10
    rw [hr 10 0 (by omega) (by decide), hr 10 1 (by omega) (by decide)]
    exact j1
  · obtain ⟨⟨u1, u2, u3, u4, u5⟩, u6, u7⟩ := l1.1 f k3
    rw [hf.1 _ (by omega) (by omega)]
    exact u7
  · obtain ⟨q1, q2⟩ := d2 g hgm
    have := (cN_m d1 g hgm).2.1
    have og := hg.2.2.2.1 g.2.1 (by omega)
    rw [q, ho.1] at og
    rw [q] at this
    omega
theorem w_265 (hE : ∀ j, (eX j).1 ≤ 1000000) (hS : wS fs tr f t s G tn st ρ e M R sl ow) (ht : tn < 300) (hQ : ∀ ρ1 e1 M1 R1 sl1 ow1 x, kG ρ e R sl ow ρ1 e1 R1 sl1 ow1 → wS fs tr f t s G (tn + 1) st ρ1 e1 M1 R1 sl1 ow1 → wF (fun _ => False) ((tr f).1 + 175) 0 0 G.length e tn st ow M R M1 R1 → c_E ρ1 R1 x → (ow1 x = tn ∧ ow1 (x + 1) = tn) → x + 2 ≤ e1 + 174 → (∀ g ∈ G, g.2.1 ≠ x) → Q (.inl (some (.inr (.inr (some (x + 1)))))) (ρ1, e1, M1, R1, sl1)) : xm_call tb_P eX tb_K0 174 (d + 3) 265 [.inr (.inr (some 9))] (ρ, e, M, R, sl) Q := w_265r hE hS ht (fun ρ1 e1 M1 R1 sl1 ow1 x h1 h2 h3 h4 h5 h6 h7 _ => hQ ρ1 e1 M1 R1 sl1 ow1 x h1 h2 h3 h4 h5 h6 h7)
end

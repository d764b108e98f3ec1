/-! THE HEADER in the class's tree: names, and what is given, one behind the other -/
/-- names from node c on -/
def nmT (tk : Int → t_t) (T : Int → Int) (hi : Int) : Int → List Int → Prop
  | c, [] => c = 0
  | c, i :: l => (1 ≤ c ∧ c < hi) ∧ (T (c * 9 + 1) = (tk i).2.1 ∧ T (c * 9 + 3) = (tk i).2.2.1) ∧ nmT tk T hi (t_nx T c) l
def paT (tk : Int → t_t) (T : Int → Int) (hi : Int) : Int → List (Int × z_T) → Prop
  | c, [] => c = 0
  | c, y :: l => (1 ≤ c ∧ c < hi) ∧ (T (c * 9 + 1) = (tk y.1).2.1 ∧ T (c * 9 + 3) = (tk y.1).2.2.1) ∧ tyC T 1 hi (T (c * 9 + 5)) y.2 ∧ paT tk T hi (t_nx T c) l
theorem nmT_fr {tk : Int → t_t} {T T' : Int → Int} {hi hi' : Int} (h : ∀ j, 9 ≤ j → j < hi * 9 → T' j = T j) (h2 : hi ≤ hi') : ∀ {l : List Int} {c : Int}, nmT tk T hi c l → nmT tk T' hi' c l
  | [], _, q => q
  | i :: l, c, ⟨a, b, q⟩ => by
    refine ⟨by omega, ⟨(h _ (by omega) (by omega)).trans b.1, (h _ (by omega) (by omega)).trans b.2⟩, ?_⟩
    rw [t_nx_fr (h _ (by omega) (by omega))]
    exact nmT_fr h h2 q
theorem paT_fr {tk : Int → t_t} {T T' : Int → Int} {hi hi' : Int} (h : ∀ j, 9 ≤ j → j < hi * 9 → T' j = T j) (h2 : hi ≤ hi') : ∀ {l : List (Int × z_T)} {c : Int}, paT tk T hi c l → paT tk T' hi' c l
  | [], _, q => q
  | y :: l, c, ⟨a, b, t, q⟩ => by
    refine ⟨by omega, ⟨(h _ (by omega) (by omega)).trans b.1, (h _ (by omega) (by omega)).trans b.2⟩, ?_, ?_⟩
    · rw [h _ (by omega) (by omega)]; exact tyC_fr (fun j p r => h j (by omega) r) (Int.le_refl _) h2 t
    · rw [t_nx_fr (h _ (by omega) (by omega))]; exact paT_fr h h2 q
def t_ns (tk : Int → t_t) : (Int → Int) → Int → Int → List Int → (Int → Int)
  | T, _, _, [] => T
  | T, z, last, i :: l => t_ns tk (t_u (t_nm tk T z i) (last * 9 + 7) z) (z + 1) z l
theorem t_nm_f {tk : Int → t_t} {T : Int → Int} {z i : Int} : t_nm tk T z i (z * 9 + 1) = (tk i).2.1 ∧ t_nm tk T z i (z * 9 + 3) = (tk i).2.2.1 ∧ t_nm tk T z i (z * 9 + 7) = 0 ∧ ∀ j, j < z * 9 → t_nm tk T z i j = T j := by
  unfold t_nm
  exact ⟨by rw [t_u_o (by omega), t_ad_1 rfl], t_u_s rfl, by rw [t_u_o (by omega), t_ad_z (by omega)], fun j a => by rw [t_u_o (by omega), t_ad_lo a]⟩
theorem t_ns_C {tk : Int → t_t} : ∀ (l : List Int) (T : Int → Int) (z last : Int), 1 ≤ last → last < z → T (last * 9 + 7) = 0 → nmT tk (t_ns tk T z last l) (z + l.length) (t_nx (t_ns tk T z last l) last) l ∧ ∀ j, j < z * 9 → j ≠ last * 9 + 7 → t_ns tk T z last l j = T j
  | [], T, z, last, h1, h2, h0 => by
    refine ⟨?_, fun j _ _ => rfl⟩
    show t_nx T last = 0
    unfold t_nx
    rw [h0, if_neg (by omega)]
  | i :: l, T, z, last, h1, h2, h0 => by
    obtain ⟨a1, a2, a3, a4⟩ := t_nm_f (tk := tk) (T := T) (z := z) (i := i)
    have ln : t_u (t_nm tk T z i) (last * 9 + 7) z (last * 9 + 7) = z := t_u_s rfl
    have e : t_ns tk T z last (i :: l) = t_ns tk (t_u (t_nm tk T z i) (last * 9 + 7) z) (z + 1) z l := rfl
    have b1 : t_u (t_nm tk T z i) (last * 9 + 7) z (z * 9 + 1) = (tk i).2.1 := by rw [t_u_o (by omega)]; exact a1
    have b2 : t_u (t_nm tk T z i) (last * 9 + 7) z (z * 9 + 3) = (tk i).2.2.1 := by rw [t_u_o (by omega)]; exact a2
    have b3 : t_u (t_nm tk T z i) (last * 9 + 7) z (z * 9 + 7) = 0 := by rw [t_u_o (by omega)]; exact a3
    have b4 : ∀ j, j < z * 9 → j ≠ last * 9 + 7 → t_u (t_nm tk T z i) (last * 9 + 7) z j = T j := fun j p q => by rw [t_u_o q]; exact a4 j p
    generalize t_u (t_nm tk T z i) (last * 9 + 7) z = A at ln e b1 b2 b3 b4
    obtain ⟨i1, i2⟩ := t_ns_C l A (z + 1) z (by omega) (by omega) b3
    have nx : t_nx (t_ns tk A (z + 1) z l) last = z := by
      unfold t_nx
      rw [i2 _ (by omega) (by omega), ln, if_pos h2]
    rw [e, nx, List.length_cons]
    refine ⟨⟨by omega, ⟨by rw [i2 _ (by omega) (by omega)]; exact b1, by rw [i2 _ (by omega) (by omega)]; exact b2⟩, nmT_fr (fun _ _ _ => rfl) (by omega) i1⟩, fun j p q => ?_⟩
    rw [i2 j (by omega) (by omega)]; exact b4 j p q
def z_pln : List (Int × z_T) → Int
  | [] => 0
  | y :: l => 1 + z_tn y.2 + z_pln l
def t_pl (tk : Int → t_t) : (Int → Int) → Int → Int → List (Int × z_T) → (Int → Int)
  | T, _, _, [] => T
  | T, z, last, y :: l => t_pl tk (t_pm tk T z y.1 y.2 last) (z + 1 + z_tn y.2) z l
theorem h_ci_d {tk : Int → t_t} : ∀ (m : Nat) (k p z : Int) (T : Int → Int) (last : Int) (o : g_o), h_ci tk m k p z T last o → (∃ a m', h_Jn tk k p m' a ∧ o = .inl a) ∨ ∃ l p', h_J tk k p l p' ∧ o = .inr (p', z + l.length, t_ns tk T z last l, k + l.length)
  | 0, k, p, z, T, last, o, ⟨h1, h2⟩ => .inr ⟨[], p, ⟨h1, rfl⟩, by rw [h2]; show _ = Sum.inr (p, z + ((0 : Nat) : Int), T, k + ((0 : Nat) : Int)); rw [show z + ((0 : Nat) : Int) = z by omega, show k + ((0 : Nat) : Int) = k by omega]⟩
  | m + 1, k, p, z, T, last, o, ⟨h1, h2, h3⟩ => by
    rcases h3 with ⟨h3, h4⟩ | ⟨h3, h4⟩
    · exact .inl ⟨_, 0, ⟨h1, h2, h3, rfl⟩, h4⟩
    · rcases h_ci_d m _ _ _ _ _ _ h4 with ⟨a, m', h5, h6⟩ | ⟨l, p', h5, h6⟩
      · exact .inl ⟨a, m' + 1, ⟨h1, h2, h3, h5⟩, h6⟩
      · refine .inr ⟨(p + 1) :: l, p', ⟨h1, h2, rfl, h3, h5⟩, ?_⟩
        rw [h6, List.length_cons]
        show Sum.inr (p', z + 1 + (l.length : Int), _, k + 1 + (l.length : Int)) = Sum.inr (p', z + ((l.length + 1 : Nat) : Int), _, k + ((l.length + 1 : Nat) : Int))
        rw [show z + 1 + (l.length : Int) = z + ((l.length + 1 : Nat) : Int) by omega, show k + 1 + (l.length : Int) = k + ((l.length + 1 : Nat) : Int) by omega]
        rfl
theorem h_pa_d {tk : Int → t_t} : ∀ (m : Nat) (k p z : Int) (T : Int → Int) (last : Int) (o : g_o), h_pa tk m k p z T last o → (∃ a, (h_P1n tk p a ∨ ∃ x p1 m', h_P1 tk p x p1 ∧ h_Ln tk (k + 1) p1 m' a) ∧ o = .inl a) ∨ ∃ x p1 l p', h_P1 tk p x p1 ∧ h_L tk (k + 1) p1 l p' ∧ o = .inr (p', z + z_pln ((p, x) :: l), t_pl tk T z last ((p, x) :: l), k + 1 + l.length)
  | 0, _, _, _, _, _, _, h => h.elim
  | m + 1, k, p, z, T, last, o, h => by
    rcases h with ⟨h3, h⟩ | ⟨h3, h⟩
    · exact .inl ⟨_, .inl (.inl ⟨h3, rfl⟩), h⟩
    rcases h with ⟨h58, h⟩ | ⟨h58, h⟩
    · exact .inl ⟨_, .inl (.inr ⟨h3, .inl ⟨h58, rfl⟩⟩), h⟩
    rcases h with ⟨a, h5, h⟩ | ⟨x, p1, h5, h⟩
    · exact .inl ⟨a, .inl (.inr ⟨h3, .inr ⟨h58, h5⟩⟩), h⟩
    rcases h with ⟨h6, h⟩ | ⟨h6, h7, h⟩
    · refine .inr ⟨x, p1, [], p1, ⟨h3, h58, h5⟩, ⟨h6, rfl⟩, ?_⟩
      rw [h]
      show Sum.inr (p1, z + 1 + z_tn x, t_pm tk T z p x last, k + 1) = Sum.inr (p1, z + (1 + z_tn x + 0), t_pm tk T z p x last, k + 1 + ((0 : Nat) : Int))
      rw [show z + (1 + z_tn x + 0) = z + 1 + z_tn x by omega, show k + 1 + ((0 : Nat) : Int) = k + 1 by omega]
    · rcases h_pa_d m _ _ _ _ _ _ h with ⟨a, h8, h9⟩ | ⟨x', p1', l, p', h8, h9, h10⟩
      · refine .inl ⟨a, .inr ?_, h9⟩
        rcases h8 with h8 | ⟨x', p1', m', h8, h10⟩
        · exact ⟨x, p1, 0, ⟨h3, h58, h5⟩, h6, h7, h8⟩
        · exact ⟨x, p1, m' + 1, ⟨h3, h58, h5⟩, h6, h7, x', p1', h8, h10⟩
      · refine .inr ⟨x, p1, (p1 + 1, x') :: l, p', ⟨h3, h58, h5⟩, ⟨h6, h7, rfl, p1', h8, h9⟩, ?_⟩
        rw [h10, List.length_cons]
        show Sum.inr (p', z + 1 + z_tn x + z_pln ((p1 + 1, x') :: l), _, k + 1 + 1 + (l.length : Int)) = Sum.inr (p', z + (1 + z_tn x + z_pln ((p1 + 1, x') :: l)), _, k + 1 + ((l.length + 1 : Nat) : Int))
        rw [show z + 1 + z_tn x + z_pln ((p1 + 1, x') :: l) = z + (1 + z_tn x + z_pln ((p1 + 1, x') :: l)) by omega, show k + 1 + 1 + (l.length : Int) = k + 1 + ((l.length + 1 : Nat) : Int) by omega]
        rfl
theorem t_pm_f {tk : Int → t_t} {c p' : Int} {T : Int → Int} {z p last : Int} {x : z_T} (hS : t_S tk c) (hp : 0 ≤ p ∧ p + 2 ≤ c) (hz : 1 ≤ z) (hl : 0 ≤ last ∧ last < z) (hx : z_Ty tk (p + 2) x p') : (t_pm tk T z p x last (z * 9 + 1) = (tk p).2.1 ∧ t_pm tk T z p x last (z * 9 + 3) = (tk p).2.2.1) ∧ t_pm tk T z p x last (z * 9 + 5) = z + 1 ∧ t_pm tk T z p x last (z * 9 + 7) = 0 ∧ tyC (t_pm tk T z p x last) (z + 1) (z + 1 + z_tn x) (z + 1) x ∧ (last ≠ 0 → t_pm tk T z p x last (last * 9 + 7) = z) ∧ ∀ j, j < z * 9 → (last = 0 ∨ j ≠ last * 9 + 7) → t_pm tk T z p x last j = T j := by
  obtain ⟨a1, a2, a3, a4⟩ := t_nm_f (tk := tk) (T := T) (z := z) (i := p)
  have cc := t_ty_C (T := t_nm tk T z p) (z := z + 1) hS (by omega) (by omega) hx
  have lo : ∀ j, j < (z + 1) * 9 → t_ty (t_nm tk T z p) (z + 1) x j = t_nm tk T z p j := fun j h => t_ty_lo h
  have e1 : ∀ j, j ≠ z * 9 + 5 → (last = 0 ∨ j ≠ last * 9 + 7) → t_pm tk T z p x last j = t_ty (t_nm tk T z p) (z + 1) x j := fun j h h' => by
    unfold t_pm
    by_cases hl0 : last = 0
    · rw [if_pos hl0, t_u_o h]
    · rw [if_neg hl0, t_u_o (by omega), t_u_o h]
  refine ⟨⟨?_, ?_⟩, ?_, ?_, ?_, fun h => ?_, fun j h h' => ?_⟩
  · rw [e1 _ (by omega) (by omega), lo _ (by omega)]; exact a1
  · rw [e1 _ (by omega) (by omega), lo _ (by omega)]; exact a2
  · unfold t_pm
    by_cases hl0 : last = 0
    · rw [if_pos hl0, t_u_s rfl]
    · rw [if_neg hl0, t_u_o (by omega), t_u_s rfl]
  · rw [e1 _ (by omega) (by omega), lo _ (by omega)]; exact a3
  · exact tyC_fr (fun j h1 h2 => e1 j (by omega) (by omega)) (Int.le_refl _) (Int.le_refl _) cc
  · unfold t_pm
    rw [if_neg h, t_u_s rfl]
  · rw [e1 j (by omega) h', lo j (by omega)]; exact a4 j h
theorem t_pl_C {tk : Int → t_t} {c : Int} (hS : t_S tk c) : ∀ (l : List (Int × z_T)) (T : Int → Int) (z last k p p' : Int), 1 ≤ last → last < z → T (last * 9 + 7) = 0 → 0 ≤ p ∧ p ≤ c → h_L tk k p l p' → paT tk (t_pl tk T z last l) (z + z_pln l) (t_nx (t_pl tk T z last l) last) l ∧ (∀ j, j < z * 9 → j ≠ last * 9 + 7 → t_pl tk T z last l j = T j) ∧ 0 ≤ z_pln l
  | [], T, z, last, k, p, p', h1, h2, h0, hp, hL => by
    refine ⟨?_, fun j _ _ => rfl, Int.le_refl _⟩
    show t_nx T last = 0
    unfold t_nx
    rw [h0, if_neg (by omega)]
  | y :: l, T, z, last, k, p, p', h1, h2, h0, hp, hL => by
    obtain ⟨n1, n2, n3, p1, ⟨n4, n5, n6⟩, n7⟩ := hL
    have hlt := z_M_lt hS hp n2
    have hlt1 : p + 1 < c := z_lt hS (by omega) (by rw [n4]; decide)
    have hlt2 : p + 1 + 1 < c := z_M_lt hS (by omega) n5
    obtain ⟨y1, y2, y3, y4, y5, y6⟩ := z_Ty_p hS (p := p + 1 + 2) (by omega) n6
    rw [← n3] at n6
    obtain ⟨⟨a1, a1'⟩, a2, a3, a4, a5, a6⟩ := t_pm_f (T := T) (z := z) (last := last) hS (by omega) (by omega) (by omega) n6
    have ln := a5 (by omega)
    have e : t_pl tk T z last (y :: l) = t_pl tk (t_pm tk T z y.1 y.2 last) (z + 1 + z_tn y.2) z l := rfl
    have e0 : z_pln (y :: l) = 1 + z_tn y.2 + z_pln l := rfl
    generalize t_pm tk T z y.1 y.2 last = A at a1 a1' a2 a3 a4 a5 a6 ln e
    obtain ⟨i1, i2, i3⟩ := t_pl_C hS l A (z + 1 + z_tn y.2) z (k + 1) p1 p' (by omega) (by omega) a3 (by omega) n7
    have nx : t_nx (t_pl tk A (z + 1 + z_tn y.2) z l) last = z := by
      unfold t_nx
      rw [i2 _ (by omega) (by omega), ln, if_pos h2]
    rw [e, nx, e0]
    refine ⟨⟨by omega, ⟨by rw [i2 _ (by omega) (by omega)]; exact a1, by rw [i2 _ (by omega) (by omega)]; exact a1'⟩, ?_, paT_fr (fun _ _ _ => rfl) (by omega) i1⟩, fun j q r => ?_, by omega⟩
    · rw [i2 _ (by omega) (by omega), a2]
      exact tyC_fr (fun j q1 q2 => i2 j (by omega) (by omega)) (by omega) (by omega) a4
    · rw [i2 j (by omega) (by omega)]; exact a6 j q (.inr r)

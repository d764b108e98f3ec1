/-! THE REFERENCE READS BY THE GRAMMAR: a call -/
/-- the class's tree with a call's indexes more -/
def z_cn : List (List z_t) → Int
  | [] => 0
  | L :: l => 1 + L.length + z_cn l
def t_ci : (Int → Int) → Int → Int → List (List z_t) → (Int → Int)
  | T, _, _, [] => T
  | T, z, last, L :: l => t_ci (t_u (t_u (t_ix (t_ad T z 17 (z_pl L)) (z + 1) 0 L) (z * 9 + 5) (z + 1)) (last * 9 + 7) z) (z + 1 + L.length) z l
theorem z_cn_0 : ∀ l : List (List z_t), 0 ≤ z_cn l
  | [] => Int.le_refl _
  | L :: l => by
    have := z_cn_0 l
    show 0 ≤ 1 + (L.length : Int) + z_cn l
    omega
theorem g_ci_d {tk : Int → t_t} : ∀ (m : Nat) (k p z : Int) (T : Int → Int) (last : Int) (o : g_o), g_ci tk m k p z T last o → (∃ a m', z_Jn tk k p m' a ∧ o = .inl a) ∨ ∃ l p', z_J tk k p l p' ∧ o = .inr (p', z + z_cn l, t_ci T z last l, 0)
  | 0, k, p, z, T, last, o, ⟨h1, h2⟩ => .inr ⟨[], p, ⟨h1, rfl⟩, by rw [h2]; show _ = Sum.inr (p, z + 0, T, (0 : Int)); rw [Int.add_zero]⟩
  | m + 1, k, p, z, T, last, o, ⟨h1, h2, h3⟩ => by
    rcases h3 with ⟨a, h3, h4⟩ | ⟨L, p1, h3, h4⟩
    · exact .inl ⟨a, 0, ⟨h1, h2, h3⟩, h4⟩
    · rw [← z_I_pl h3] at h4
      rcases g_ci_d m _ _ _ _ _ _ h4 with ⟨a, m', h5, h6⟩ | ⟨l, p', h5, h6⟩
      · exact .inl ⟨a, m' + 1, ⟨h1, h2, L, p1, h3, h5⟩, h6⟩
      · refine .inr ⟨L :: l, p', ⟨h1, h2, p1, h3, h5⟩, ?_⟩
        rw [h6]
        show Sum.inr (p', z + 1 + (L.length : Int) + z_cn l, _, (0 : Int)) = Sum.inr (p', z + (1 + (L.length : Int) + z_cn l), _, (0 : Int))
        rw [show z + 1 + (L.length : Int) + z_cn l = z + (1 + (L.length : Int) + z_cn l) by omega]
        rfl
/-- they stand there one behind the other -/
def isC (T : Int → Int) (lo hi : Int) : Int → List (List z_t) → Prop
  | f, [] => f = 0
  | f, L :: l => (lo ≤ f ∧ f < hi) ∧ (ixC T lo hi (T (f * 9 + 5)) L ∧ T (f * 9 + 1) = z_pl L) ∧ isC T lo hi (t_nx T f) l
theorem isC_fr {T T' : Int → Int} {lo hi lo' hi' : Int} (h : ∀ j, lo * 9 ≤ j → j < hi * 9 → T' j = T j) (h1 : lo' ≤ lo) (h2 : hi ≤ hi') : ∀ {l : List (List z_t)} {f : Int}, isC T lo hi f l → isC T' lo' hi' f l
  | [], _, q => q
  | L :: l, f, ⟨a, b, q⟩ => by
    refine ⟨by omega, ?_, ?_⟩
    · exact ⟨by rw [h _ (by omega) (by omega)]; exact ixC_fr h h1 h2 b.1, by rw [h _ (by omega) (by omega)]; exact b.2⟩
    · rw [t_nx_fr (h _ (by omega) (by omega))]; exact isC_fr h h1 h2 q
/-- one index node -/
theorem t_ci1 {T : Int → Int} {z q : Int} {L : List z_t} (hz : 1 ≤ z) (hq : q < z * 9) (hL : (∀ t ∈ L, z_tk t) ∧ L ≠ []) : (t_u (t_u (t_ix (t_ad T z 17 (z_pl L)) (z + 1) 0 L) (z * 9 + 5) (z + 1)) q z) (z * 9 + 5) = z + 1 ∧ ((t_u (t_u (t_ix (t_ad T z 17 (z_pl L)) (z + 1) 0 L) (z * 9 + 5) (z + 1)) q z) (z * 9 + 7) = 0 ∧ (t_u (t_u (t_ix (t_ad T z 17 (z_pl L)) (z + 1) 0 L) (z * 9 + 5) (z + 1)) q z) (z * 9 + 1) = z_pl L) ∧ ixC (t_u (t_u (t_ix (t_ad T z 17 (z_pl L)) (z + 1) 0 L) (z * 9 + 5) (z + 1)) q z) (z + 1) (z + 1 + L.length) (z + 1) L ∧ ∀ j, j < z * 9 → j ≠ q → (t_u (t_u (t_ix (t_ad T z 17 (z_pl L)) (z + 1) 0 L) (z * 9 + 5) (z + 1)) q z) j = T j := by
  refine ⟨?_, ?_, ?_, fun j a b => ?_⟩
  · rw [t_u_o (by omega), t_u_s rfl]
  · exact ⟨by rw [t_u_o (by omega), t_u_o (by omega), t_ix_lo _ _ _ _ _ (by omega) (.inl rfl), t_ad_z (by omega)], by rw [t_u_o (by omega), t_u_o (by omega), t_ix_lo _ _ _ _ _ (by omega) (.inl rfl), t_ad_1 rfl]⟩
  · exact ixC_fr (fun j a b => by rw [t_u_o (by omega), t_u_o (by omega)]) (Int.le_refl _) (Int.le_refl _) (t_ix_C L (t_ad T z 17 (z_pl L)) (z + 1) 0 (by omega) (by omega) hL.1 hL.2).1
  · rw [t_u_o b, t_u_o (by omega), t_ix_lo _ _ _ _ _ (by omega) (.inl rfl), t_ad_lo a]
theorem t_ci_C : ∀ (l : List (List z_t)) (T : Int → Int) (z last : Int), 1 ≤ last → last < z → T (last * 9 + 7) = 0 → (∀ L ∈ l, (∀ t ∈ L, z_tk t) ∧ L ≠ []) → isC (t_ci T z last l) z (z + z_cn l) (t_nx (t_ci T z last l) last) l ∧ ∀ j, j < z * 9 → j ≠ last * 9 + 7 → t_ci T z last l j = T j
  | [], T, z, last, h1, h2, h0, h3 => by
    refine ⟨?_, fun j _ _ => rfl⟩
    show t_nx T last = 0
    unfold t_nx
    rw [h0, if_neg (by omega)]
  | L :: l, T, z, last, h1, h2, h0, h3 => by
    have hl := z_cn_0 l
    obtain ⟨a1, ⟨a2, a2'⟩, a3, a4⟩ := t_ci1 (T := T) (z := z) (q := last * 9 + 7) (by omega) (by omega) (h3 L List.mem_cons_self)
    have ln : t_u (t_u (t_ix (t_ad T z 17 (z_pl L)) (z + 1) 0 L) (z * 9 + 5) (z + 1)) (last * 9 + 7) z (last * 9 + 7) = z := t_u_s rfl
    have e : t_ci T z last (L :: l) = t_ci (t_u (t_u (t_ix (t_ad T z 17 (z_pl L)) (z + 1) 0 L) (z * 9 + 5) (z + 1)) (last * 9 + 7) z) (z + 1 + L.length) z l := rfl
    have e0 : z_cn (L :: l) = 1 + (L.length : Int) + z_cn l := rfl
    generalize t_u (t_u (t_ix (t_ad T z 17 (z_pl L)) (z + 1) 0 L) (z * 9 + 5) (z + 1)) (last * 9 + 7) z = A at a1 a2 a2' a3 a4 ln e
    obtain ⟨i1, i2⟩ := t_ci_C l A (z + 1 + L.length) z (by omega) (by omega) a2 (fun x hx => h3 x (List.mem_cons_of_mem _ hx))
    rw [e, e0]
    have nx : t_nx (t_ci A (z + 1 + L.length) z l) last = z := by
      unfold t_nx
      rw [i2 _ (by omega) (by omega), ln, if_pos h2]
    rw [nx]
    refine ⟨⟨⟨Int.le_refl _, by omega⟩, ?_, ?_⟩, fun j a b => ?_⟩
    · refine ⟨?_, by rw [i2 _ (by omega) (by omega)]; exact a2'⟩
      rw [i2 _ (by omega) (by omega), a1]
      exact ixC_fr (fun j q1 q2 => i2 j (by omega) (by omega)) (by omega) (by omega) a3
    · exact isC_fr (fun _ _ _ => rfl) (by omega) (by omega) i1
    · rw [i2 j (by omega) (by omega)]; exact a4 j a b
theorem e_i_L {M : Nat → Int → Int} {T : Int → Int} {lo hi : Int} : ∀ {l : List (List z_t)} {x f : Int}, (∀ L ∈ l, (∀ t ∈ L, z_tk t) ∧ L ≠ []) → isQ M x l → isC T lo hi f l → e_i M T lo hi l.length x f
  | [], _, _, _, _, h => h
  | [] :: _, _, _, h, _, _ => absurd rfl (h [] List.mem_cons_self).2
  | (t :: L) :: l, x, f, h, ⟨a, b⟩, ⟨c, q, g⟩ => ⟨c, ⟨t, L, a, q.1, q.2, (h (t :: L) List.mem_cons_self).1⟩, e_i_L (fun y hy => h y (List.mem_cons_of_mem _ hy)) b g⟩
theorem z_J_k {tk : Int → t_t} {c : Int} (hS : t_S tk c) : ∀ {l : List (List z_t)} {k p p' : Int}, 0 ≤ p ∧ p ≤ c → z_J tk k p l p' → (∀ L ∈ l, (∀ t ∈ L, z_tk t) ∧ L ≠ []) ∧ p ≤ p' ∧ p' ≤ c ∧ k + l.length ≤ max k 4
  | [], k, p, p', hp, ⟨_, h⟩ => ⟨(fun _ h => by cases h), by omega, by omega, by rw [List.length_nil]; omega⟩
  | L :: l, k, p, p', hp, ⟨h1, h2, p1, h3, h4⟩ => by
    have q1 := z_M_lt hS hp h2
    have q2 := z_I_p hS (p := p + 1) (by omega) h3
    obtain ⟨i1, i2, i3, i4⟩ := z_J_k hS (p := p1) (by omega) h4
    refine ⟨fun x hx => ?_, by omega, i3, by rw [List.length_cons]; omega⟩
    rcases List.mem_cons.mp hx with rfl | hx
    · exact z_I_k hS (p := p + 1) (by omega) h3
    · exact i1 x hx
theorem qGn_C {k n v s i x m a0 p : Int} {M M' : Nat → Int → Int} (hi : 0 ≤ i) (hn : M 81 21 = n) (hs : M 81 48 = s) (h : qC k n v s i x m a0 p M M') : qGn M M' := by
  obtain ⟨⟨-, -, c1, c2, -⟩, -, -, c3, c4, c5, c6⟩ := h
  have f : ∀ j, j ≠ 6 → j ≠ 21 → j ≠ 48 → j ≠ 51 → j ≠ 61 → M 81 j ≤ M' 81 j := fun j a b c d e => by rw [c4 j a b c d e]; exact Int.le_refl _
  exact ⟨fun x p q => c3 x p (by omega) (by omega), fun j q1 q2 q3 q4 q5 q6 q7 q8 q9 q10 q11 => c4 j q1 q4 q9 q10 q11, ⟨by omega, fun x i p q r => c5 x i p q (by omega)⟩, ⟨f 30 (by decide) (by decide) (by decide) (by decide) (by decide), fun x i p q _ => by rw [c3 x (by omega) (by omega) (by omega)]⟩, ⟨f 34 (by decide) (by decide) (by decide) (by decide) (by decide), fun x i p q _ => by rw [c3 x (by omega) (by omega) (by omega)]⟩, ⟨f 38 (by decide) (by decide) (by decide) (by decide) (by decide), fun x i p q _ => by rw [c3 x (by omega) (by omega) (by omega)]⟩, ⟨f 42 (by decide) (by decide) (by decide) (by decide) (by decide), fun x i p q _ => by rw [c3 x (by omega) (by omega) (by omega)]⟩, by omega, fun l a => c6 l (by omega)⟩
theorem qR_C {k n v s i x m a0 p : Int} {M M' : Nat → Int → Int} (hi : 0 ≤ i) (hn : M 81 21 = n) (hs : M 81 48 = s) (h : qC k n v s i x m a0 p M M') : qR k 1 (2 * i) M M' := by
  have hg := qGn_C hi hn hs h
  obtain ⟨⟨-, -, c1, c2, -⟩, -, -, c3, c4, c5, c6⟩ := h
  have h2 := c4 30 (by decide) (by decide) (by decide) (by decide) (by decide)
  have h3 := c4 34 (by decide) (by decide) (by decide) (by decide) (by decide)
  have h4 := c4 38 (by decide) (by decide) (by decide) (by decide) (by decide)
  have h5 := c4 42 (by decide) (by decide) (by decide) (by decide) (by decide)
  exact ⟨hg, ⟨fun x i a b _ => by rw [c3 x (by omega) (by omega) (by omega)], fun i _ => by rw [c3 127 (by decide) (by decide) (by decide)]⟩, by omega, by omega, by omega, by omega, by omega, by omega⟩
section
variable {ρ : Nat → Option xk} {e sl d : Nat} {M : Nat → Int → Int} {R : Nat → Int → Option Nat} {eX : Nat → Nat × (Nat → Int32)} {Q : xK}
variable {tk : Int → t_t} {c p z k dp : Int} {prev : g_T} {o : g_o} {M1 : Nat → Int → Int} {T : Int → Int}
/-- what the tree holds of a call's node, and of its indexes, which lie before lo -/
def qA (tk : Int → t_t) (p z x0 mi lo : Int) (M : Nat → Int → Int) (T : Int → Int) : Prop := (T (z * 9 + 0) = 5 ∧ T (z * 9 + 1) = (tk p).2.1 ∧ T (z * 9 + 3) = (tk p).2.2.1) ∧ (0 ≤ mi ∧ mi ≤ 4) ∧ ∃ li hi, z < li ∧ hi ≤ lo ∧ e_i M T li hi mi.toNat x0 (T (z * 9 + 6))
theorem qA_t {x0 mi lo lo' : Int} {M M' : Nat → Int → Int} {T T' : Int → Int} (h : qA tk p z x0 mi lo M T) (hg : qGn M M') (hl : lo ≤ lo') (hT : ∀ j, z * 9 ≤ j → j < lo * 9 → j ≠ z * 9 + 5 → j < z * 9 + 9 → T' j = T j) (hT2 : ∀ j, (z + 1) * 9 ≤ j → j < lo * 9 → T' j = T j) (hlo : z < lo) : qA tk p z x0 mi lo' M' T' := by
  obtain ⟨⟨a1, a2, a3⟩, a4, li, hi, a5, a6, a7⟩ := h
  refine ⟨⟨?_, ?_, ?_⟩, a4, li, hi, a5, by omega, ?_⟩
  · rw [hT _ (by omega) (by omega) (by omega) (by omega)]; exact a1
  · rw [hT _ (by omega) (by omega) (by omega) (by omega)]; exact a2
  · rw [hT _ (by omega) (by omega) (by omega) (by omega)]; exact a3
  · rw [hT _ (by omega) (by omega) (by omega) (by omega)]
    exact e_i_t (D := fun x => li ≤ x ∧ x < hi) (qN_G hg) (fun x hx i p q => hT2 _ (by omega) (by omega)) (fun x p q => ⟨p, q⟩) a7
/-- the end of a call -/
theorem c_end (H : qH eX tk c prev dp 4 d Q ρ e M R sl k p z o M1) {d' : Nat} {q s u i x0 mi st lo zc : Int} {N : Nat → Int → Int} (ho : o = .inr (q + 1, zc, T, z)) (hq : q < c) (hw : (tk p).1 = 3) (hM : qM tk c k 4 st dp (tk p).2.1 q s u M N) (hi : N 122 k = i) (hi0 : 0 ≤ i ∧ i ≤ 5) (hv : N 123 k = (tk p).2.2.2.2) (hx : N 124 k = x0) (hm : N 125 k = mi) (hs : s ≤ q - p) (hu : u + 2 * i ≤ q - p) (hlo : z < lo ∧ lo ≤ zc) (hA : qA tk p z x0 mi lo N T) (ha : ∀ M' n s0, qGn N M' → N 81 21 ≤ n → (∀ l, 0 ≤ l → l < i → M' 118 (s0 + l) = N 127 (5 * k + l)) → e_a M' T (e_n M' T) (e_D z zc z) n i.toNat s0 (T (z * 9 + 5))) : xm_call tb_P eX tb_K0 174 (d' + 2) 57 [.inr (.inr (some 82)), .inl k] (ρ, e, N, R, sl) (fun o s' => o = .inl none ∧ xm_J tb_P eX tb_K0 174 (d + 13) 45 Q 11 [(0, .inr (.inr (some 82)))] [] s') := by
  subst ho
  have H' := H
  obtain ⟨⟨hS, hE, hz⟩, ⟨hL, hG⟩, hd, ⟨hT, hB, hk, k0, k1⟩, hO, hE1⟩ := H
  have hp := qT_p hT
  have hB2 := qBn_R hB hM.2.2 (p' := q) hs (by omega)
  obtain ⟨-, b1, -, b2, b3⟩ := hB2
  have hq0 := qT_p hM.1
  refine q_57 hE hM.1 hq hM.2.1.1 (by omega) hv hM.2.1.2.2.2.2 rfl (by omega) hi hi0 rfl (by omega) hx hm (fun M' g => ⟨rfl, ?_⟩)
  have hR := qR_tr hM.2.2 (qR_C hi0.1 rfl rfl g)
  have hg := qGn_C hi0.1 rfl rfl g
  obtain ⟨⟨c1, c2, c3, c4, c5⟩, ⟨r1, r2, r3, r4, r5, r6, r7⟩, c6, c7, c8, c9, c10⟩ := g
  have hT' : qT tk c M' (q + 1) := qT_up hM.1 (by omega) c5 (by rw [c8 8 (by decide) (by decide) (by decide) (by decide) (by decide)]; exact qT_w hM.1) (fun x hx => c7 x (by omega) (by omega) (by omega))
  obtain ⟨⟨a1, a2, a3⟩, a4, li, hi', a5, a6, a7⟩ : qA tk p z x0 mi zc M' T := qA_t hA hg hlo.2 (fun _ _ _ _ _ => rfl) (fun _ _ _ => rfl) hlo.1
  refine qO_r hO hT' c1 c2 hR (by omega) (by omega) (e_n_fo ⟨⟨by omega, by omega, by have := hR.1.2.1 10 (by decide) (by decide) (by decide) (by decide) (by decide) (by decide) (by decide) (by decide) (by decide) (by decide) (by decide); have := hM.2.2.1.2.1 10 (by decide) (by decide) (by decide) (by decide) (by decide) (by decide) (by decide) (by decide) (by decide) (by decide) (by decide); omega⟩, ?_, .inr (.inr (.inr (.inr (.inl ⟨r1, a1, ?_, ⟨li, hi', fun x p q => ⟨⟨by omega, by omega⟩, by omega⟩, ?_⟩, ?_, ?_, ?_, ?_⟩))))⟩)
  · rw [r7, a2]
  · rw [r2, a3]; exact z_ww (hS.2.2.1 p hp.1 hp.2.1) hw
  · rw [r6, r5]; exact a7
  · rw [r6]; exact a4
  · rw [r4]; exact hi0
  · rw [r3, r4, c4]; omega
  · rw [r4, r3]; exact ha M' _ _ hg (Int.le_refl _) c6
/-- the steps before the last one -/
def eP (k z : Int) (i : Nat) (M : Nat → Int → Int) (T : Int → Int) (zc last f0 : Int) : Prop := ∀ (M' : Nat → Int → Int) (T' : Int → Int) (hi' b0 n : Int) (m : Nat), qGn M M' → (∀ x, z < x → x < zc → ∀ j, 0 ≤ j → j < 9 → (x = last → j ≠ 7) → T' (x * 9 + j) = T (x * 9 + j)) → zc ≤ hi' → M 81 21 ≤ n → (∀ l, 0 ≤ l → l < (i : Int) → M' 118 (b0 + l) = M 127 (5 * k + l)) → e_a M' T' (e_n M' T') (e_D z hi' z) n m (b0 + i) last → e_a M' T' (e_n M' T') (e_D z hi' z) n (i + m) b0 f0
theorem eP_0 {M : Nat → Int → Int} {zc f0 : Int} : eP k z 0 M T zc f0 f0 := fun M' T' hi' b0 n m _ _ _ _ _ h => by
  rw [Nat.zero_add]
  have e : b0 + ((0 : Nat) : Int) = b0 := by omega
  rw [e] at h
  exact h
/-- one step more -/
theorem eP_s {M2 M3 : Nat → Int → Int} {T1 : Int → Int} {i : Nat} {lo zc z1 last f0 v r : Int} (h : eP k z i M2 T zc last f0) (hn : e_n M2 T (e_D lo zc last) r last) (hlo : z < lo ∧ lo ≤ last ∧ last < zc ∧ zc ≤ v ∧ v < z1) (hz : 0 ≤ z) (hg : qGn M2 M3) (hT : ∀ j, j < zc * 9 → T1 j = T j) (h127 : ∀ l, 0 ≤ l → l < (i : Int) → M3 127 (5 * k + l) = M2 127 (5 * k + l)) (hr : M3 127 (5 * k + i) = r) : eP k z (i + 1) M3 (t_u T1 (last * 9 + 7) v) z1 v f0 := by
  intro M' T' hi' b0 n m g1 g2 g3 g4 g5 g6
  have gg := qGn_tr hg g1
  have hm := hg.2.2.1.1
  have ag : ∀ x, z < x → x < zc → ∀ j, 0 ≤ j → j < 9 → (x = last → j ≠ 7) → T' (x * 9 + j) = T (x * 9 + j) := fun x a b j p q w => by
    rw [g2 x a (by omega) j p q (fun h => by omega), t_u_o (fun h => by have := w (by omega); omega), hT _ (by omega)]
  have nx : t_nx T' last = v := by
    unfold t_nx
    rw [g2 last (by omega) (by omega) 7 (by omega) (by omega) (fun h => by omega), t_u_s rfl, if_pos (by omega)]
  have e1 : b0 + ((i + 1 : Nat) : Int) = b0 + i + 1 := by omega
  rw [e1] at g6
  have ec : e_c (e_n M' T') (e_D z hi' z) n r last := e_cc gg hn ⟨hlo.2.1, hlo.2.2.1⟩ (by omega) (fun j a b q1 q2 => by
    have := ag (j / 9) (by omega) (by omega) (j % 9) (by omega) (by omega) (fun h => by omega)
    rw [show j / 9 * 9 + j % 9 = j by omega] at this
    exact this) (fun x a b => ⟨⟨by omega, by omega⟩, by omega⟩) (by omega)
  have h118 : M' 118 (b0 + i) = r := by rw [g5 i (by omega) (by omega)]; exact hr
  have := h M' T' hi' b0 n (m + 1) gg ag (by omega) (by omega) (fun l a b => by rw [g5 l a (by omega)]; exact h127 l a b) ⟨by rw [h118]; exact ec, by rw [nx]; exact g6⟩
  rw [show i + 1 + m = i + (m + 1) by omega]
  exact this
/-- the last one -/
theorem eP_e {M2 M' : Nat → Int → Int} {i : Nat} {lo zc last f0 r n s0 : Int} (h : eP k z i M2 T zc last f0) (hn : e_n M2 T (e_D lo zc last) r last) (hlo : z < lo ∧ lo ≤ last ∧ last < zc) (hz : 0 ≤ z) (h7 : T (last * 9 + 7) = 0) (hg : qGn M2 M') (hn2 : M2 81 21 ≤ n) (h118 : ∀ l, 0 ≤ l → l < (i : Int) → M' 118 (s0 + l) = M2 127 (5 * k + l)) (hr : M' 118 (s0 + i) = r) : e_a M' T (e_n M' T) (e_D z zc z) n (i + 1) s0 f0 := by
  have ec : e_c (e_n M' T) (e_D z zc z) n r last := e_cc hg hn ⟨hlo.2.1, hlo.2.2⟩ (by omega) (fun _ _ _ _ _ => rfl) (fun x a b => ⟨⟨by omega, by omega⟩, by omega⟩) hn2
  refine h M' T zc s0 n 1 hg (fun _ _ _ _ _ _ _ => rfl) (Int.le_refl _) hn2 h118 ⟨by rw [hr]; exact ec, ?_⟩
  show t_nx T last = 0
  unfold t_nx
  rw [h7, if_neg (by omega)]
/-- the steps of a call: one was given -/
theorem c_ca (H : qH eX tk c prev dp 4 d Q ρ e M R sl k p z o M1) {q0 x0 mi f0 : Int} (hw : (tk p).1 = 3) (hq0 : p < q0) : ∀ (m i : Nat) (q zc : Int) (T : Int → Int) (last lo r s u : Int) (M2 : Nat → Int → Int), g_b (g_ca tk prev m ((i : Int) + 1) q zc T last) (fun p2 z2 T2 _ o => g_m tk p2 41 (fun o => o = .inr (p2 + 1, z2, T2, z)) o) o → qM tk c k 4 4 dp (tk p).2.1 q s u M M2 → i < 5 → M2 122 k = (i : Int) → M2 123 k = (tk p).2.2.2.2 → M2 124 k = x0 → M2 125 k = mi → M2 81 61 = r → q0 < q → s ≤ q - p - 1 → u ≤ q - q0 - 2 * ((i : Int) + 1) → (z < lo ∧ lo ≤ last ∧ last < zc) → T (last * 9 + 7) = 0 → T (z * 9 + 5) = f0 → e_n M2 T (e_D lo zc last) r last → eP k z i M2 T zc last f0 → qA tk p z x0 mi lo M2 T → xm_J tb_P eX tb_K0 174 (d + 13) 45 Q 11 [(0, .inr (.inr (some 82)))] [] (ρ, e, M2, R, sl) := by
  have H' := H
  obtain ⟨⟨hS, hE, hz⟩, ⟨hL, hG⟩, hd, ⟨hT, hB, hk, k0, k1⟩, hO, hE1⟩ := H
  have hp := qT_p hT
  intro m
  induction m with
  | zero =>
    intro i q zc T last lo r s u M2 h hM hi5 hi hv hx hm hr hqq hs hu hlo h7 h5 hn hP hA
    rcases h with ⟨a, ⟨-, ha⟩, -⟩ | ⟨p2, z2, T2, v', ⟨hb, ha⟩, hm2⟩
    · cases ha
    · cases ha
      obtain ⟨j1, j2, j3, j4, j5⟩ := qJ_a (M := M2) (k := k) (i := (i : Int)) (r := r) k0 (by omega) _ rfl
      rcases hm2 with ⟨h4, ho⟩ | ⟨h4, ho⟩
      · have hlt : q < c := z_M_lt hS (by have := qT_p hM.1; omega) h4
        have hM3 := qM_J (st' := 4) hM (qT_J hM.1 j1 (by rw [x_up_p (by decide), x_up_p (by decide)])) j1 (by rw [j5 119 (by decide) (by decide)]) (by rw [j5 121 (by decide) (by decide)]) (by rw [j5 126 (by decide) (by decide)]) (by rw [j5 120 (by decide) (by decide)]; exact hM.2.1.2.2.1)
        refine qM_45 (w := 4) hE (by decide) (by omega) hM (q_53f (d := d + 10) hE hS hM.1 (by omega) hM.2.1.2.2.1 hi (by omega) hr h4 (xm_call_mono (Nat.le_refl _) (fun o s' hq => ⟨hq.1, rfl, hq.2⟩) (c_end (d' := d + 10) (i := (i : Int) + 1) H' ho hlt hw hM3 j2 (by omega) (by rw [j5 123 (by decide) (by decide)]; exact hv) (by rw [j5 124 (by decide) (by decide)]; exact hx) (by rw [j5 125 (by decide) (by decide)]; exact hm) (by omega) (by omega) (lo := lo) (by omega) (qA_t hA (qGn_J j1) (Int.le_refl _) (fun _ _ _ _ _ => rfl) (fun _ _ _ => rfl) hlo.1) (fun M' n s0 g1 g2 g3 => ?_))))
        have g4 : M2 81 21 ≤ n := by rw [j5 81 (by decide) (by decide)] at g2; exact g2
        rw [h5, show ((i : Int) + 1).toNat = i + 1 by omega]
        exact eP_e hP hn hlo (by omega) h7 (qGn_tr (qGn_J j1) g1) g4 (fun l a b => by rw [g3 l a (by omega)]; exact j4 _ (by omega)) (by rw [g3 i (by omega) (by omega)]; exact j3)
      · subst ho
        exact qM_45 (w := 4) hE (by decide) (by omega) hM (q_53g (d := d + 10) hE hS hM.1 (by omega) hM.2.1.2.2.1 hi (by omega) hr (by omega) h4 (fun M' w1 w2 w3 => ⟨rfl, qO_w hO w1 w2 (qGn_tr hM.2.2.1 w3)⟩))
  | succ m ih =>
    intro i q zc T last lo r s u M2 h hM hi5 hi hv hx hm hr hqq hs hu hlo h7 h5 hn hP hA
    have key : ((i : Int) + 1 < 5 ∧ z_M (tk q) 44) ∧ ((∃ a, prev 0 (q + 1) zc T (.inl a) ∧ o = .inl a) ∨ ∃ p1 z1 T1 v, prev 0 (q + 1) zc T (.inr (p1, z1, T1, v)) ∧ g_b (g_ca tk prev m ((i : Int) + 1 + 1) p1 z1 (t_u T1 (last * 9 + 7) v) v) (fun p2 z2 T2 _ o => g_m tk p2 41 (fun o => o = .inr (p2 + 1, z2, T2, z)) o) o) := by
      rcases h with ⟨a, ⟨h1, h2, h3⟩, ho⟩ | ⟨p2, z2, T2, v', ⟨h1, h2, h3⟩, hm2⟩
      · rcases h3 with ⟨a', h3, e⟩ | ⟨p1, z1, T1, v, h3, h4⟩
        · cases e
          exact ⟨⟨h1, h2⟩, .inl ⟨a, h3, ho⟩⟩
        · exact ⟨⟨h1, h2⟩, .inr ⟨p1, z1, T1, v, h3, .inl ⟨a, h4, ho⟩⟩⟩
      · rcases h3 with ⟨a', h3, e⟩ | ⟨p1, z1, T1, v, h3, h4⟩
        · cases e
        · exact ⟨⟨h1, h2⟩, .inr ⟨p1, z1, T1, v, h3, .inr ⟨p2, z2, T2, v', h4, hm2⟩⟩⟩
    obtain ⟨⟨hi4, h44⟩, key⟩ := key
    have hq1 := qT_p hM.1
    have hlt : q < c := z_M_lt hS (by omega) h44
    obtain ⟨j1, j2, j3, j4, j5⟩ := qJ_a (M := M2) (k := k) (i := (i : Int)) (r := r) k0 (by omega) _ rfl
    refine qM_45 (w := 4) hE (by decide) (by omega) hM (q_53e (d := d + 10) hE hS hM.1 hM.2.1.1 (by omega) hM.2.1.2.2.1 hM.2.1.2.2.2.1 (by omega) hi (by omega) hr h44 (fun N hN M' g1 g2 => ⟨rfl, ?_⟩))
    subst hN
    have jT := (qT_nx (qT_J hM.1 j1 (by rw [x_up_p (by decide), x_up_p (by decide)])) hlt).1
    have jJ := qJ_tr j1 (qJ_6 (k := k) (v := q + 1))
    generalize x_up (x_up M2 127 (5 * k + (i : Int)) r) 122 k ((i : Int) + 1) = A at *
    have cx : ∀ x, x ≠ 81 → x_up A 81 6 (q + 1) x = A x := fun x h => x_up_ne h
    have hMN := qM_J (st' := 4) hM jT jJ (by rw [cx 119 (by decide), j5 119 (by decide) (by decide)]) (by rw [cx 121 (by decide), j5 121 (by decide) (by decide)]) (by rw [cx 126 (by decide), j5 126 (by decide) (by decide)]) (by rw [cx 120 (by decide), j5 120 (by decide) (by decide)]; exact hM.2.1.2.2.1)
    have n122 : x_up A 81 6 (q + 1) 122 k = (i : Int) + 1 := by rw [cx 122 (by decide)]; exact j2
    have n123 : x_up A 81 6 (q + 1) 123 k = (tk p).2.2.2.2 := by rw [cx 123 (by decide), j5 123 (by decide) (by decide)]; exact hv
    have n124 : x_up A 81 6 (q + 1) 124 k = x0 := by rw [cx 124 (by decide), j5 124 (by decide) (by decide)]; exact hx
    have n125 : x_up A 81 6 (q + 1) 125 k = mi := by rw [cx 125 (by decide), j5 125 (by decide) (by decide)]; exact hm
    have n127 : ∀ l, l ≠ 5 * k + (i : Int) → x_up A 81 6 (q + 1) 127 l = M2 127 l := fun l h => by rw [cx 127 (by decide)]; exact j4 l h
    have m127 : x_up A 81 6 (q + 1) 127 (5 * k + (i : Int)) = r := by rw [cx 127 (by decide)]; exact j3
    have gN : qGn M2 (x_up A 81 6 (q + 1)) := qGn_J jJ
    generalize x_up A 81 6 (q + 1) = N at *
    have hBN : qBn c N (q + 1) := qBn_R hB hMN.2.2 (by omega) (by omega)
    rcases key with ⟨a, h1, rfl⟩ | ⟨p1, z1, T1, v, h1, h2⟩
    · exact hL 0 (q + 1) zc T _ (by decide) (by omega) h1 d ρ e N R sl Q (k + 1) hMN.1 hBN hMN.2.1.1 (by omega) (by omega) (fun M3 w1 w2 w3 => qO_w hO w1 w2 (qGn_tr hMN.2.2.1 w3)) M' g1 g2
    have q0' := hG 0 (q + 1) zc T _ (by decide) (by omega) (by omega) (by omega) h1
    obtain ⟨y1, y2, y3, y4, y5, y6, y7, y8, y9⟩ := q0'
    refine hL 0 (q + 1) zc T _ (by decide) (by omega) h1 d ρ e N R sl Q (k + 1) hMN.1 hBN hMN.2.1.1 (by omega) (by omega) (fun M3 r3 hT3 hk3 hr3 hG3 hF3 hD3 hn3 => ?_) M' g1 g2
    have hM3 := qM_b hMN hT3 hk3 hG3 hF3 hD3
    have f : ∀ x, 119 ≤ x → x ≤ 126 → M3 x k = N x k := fun x a b => hF3.1 x k a b (by omega)
    have gG : qGn M2 M3 := qGn_tr gN hG3
    refine ih (i + 1) p1 z1 (t_u T1 (last * 9 + 7) v) v zc r3 _ _ M3 (by rw [show ((i + 1 : Nat) : Int) = (i : Int) + 1 by omega]; exact h2) hM3 (by omega) (by rw [f 122 (by omega) (by omega), n122]; omega) (by rw [f 123 (by omega) (by omega)]; exact n123) (by rw [f 124 (by omega) (by omega)]; exact n124) (by rw [f 125 (by omega) (by omega)]; exact n125) hr3 (by omega) (by omega) (by omega) (by omega) (by rw [t_u_o (by omega)]; exact y8) (by rw [t_u_o (by omega), y7 _ (by omega)]; exact h5) ?_ ?_ ?_
    · exact e_n_t (qN_rf M3) (fun x hx j a b => t_u_o (by have := hx.1.1; omega)) (fun j a b => t_u_o (by omega)) hn3
    · exact eP_s hP hn (by omega) (by omega) gG y7 (fun l a b => by rw [hF3.2 _ (by omega)]; exact n127 _ (by omega)) (by rw [hF3.2 _ (by omega)]; exact m127)
    · exact qA_t hA gG (by omega) (fun j a b _ q => by rw [t_u_o (by omega)]; exact y7 j (by omega)) (fun j a b => by rw [t_u_o (by omega)]; exact y7 j (by omega)) hlo.1
/-- from ( on -/
theorem c_c2 (H : qH eX tk c prev dp 4 d Q ρ e M R sl k p z o M1) {q zc s x0 mi : Int} {N : Nat → Int → Int} (hw : (tk p).1 = 3) (h : g_c2 tk prev z q zc T o) (hM : qM tk c k 4 0 dp (tk p).2.1 q s 0 M N) (hi : N 122 k = 0) (hv : N 123 k = (tk p).2.2.2.2) (hx : N 124 k = x0) (hm : N 125 k = mi) (hpq : p < q) (hs : s ≤ q - p - 1) (hzc : z < zc) (h5 : T (z * 9 + 5) = 0) (hA : qA tk p z x0 mi zc N T) : xm_J tb_P eX tb_K0 174 (d + 10) 55 (fun o s' => o = .inl none ∧ xm_J tb_P eX tb_K0 174 (d + 13) 45 Q 11 [(0, .inr (.inr (some 82)))] [] s') 108 [(0, .inr (.inr (some 82))), (1, .inl k)] [] (ρ, e, N, R, sl) := by
  have H' := H
  obtain ⟨⟨hS, hE, hz⟩, ⟨hL, hG⟩, hd, ⟨hT, hB, hk, k0, k1⟩, hO, hE1⟩ := H
  have hp := qT_p hT
  have hq0 := qT_p hM.1
  rcases h with ⟨h40, h⟩ | ⟨h40, rfl⟩
  · have hlt : q < c := z_M_lt hS (by omega) h40
    rcases h with ⟨h41, ho⟩ | ⟨h41, h⟩
    · have hlt1 : q + 1 < c := z_M_lt hS (by omega) h41
      refine l_55a (d := d + 3) hE hS hM.1 (by omega) h40 h41 (fun M2 g1 g2 => ?_)
      have jJ : qJ k N (x_up M2 120 k 4) := qJ_tr (qJ_P g2) (qJ_u (by omega))
      have cx : ∀ x, x ≠ 81 → x ≠ 120 → x_up M2 120 k 4 x = N x := fun x a b => by rw [x_up_ne b]; exact g2.1 x a
      have hMN := qM_J (st' := 4) hM (qT_c (q := 120) (k := k) (v := 4) g1 (by omega)) jJ (by rw [cx 119 (by decide) (by decide)]) (by rw [cx 121 (by decide) (by decide)]) (by rw [cx 126 (by decide) (by decide)]) (x_up_s rfl)
      refine xm_call_mono (Nat.le_refl _) (fun o s' hq => ⟨hq.1, rfl, hq.2⟩) (c_end (d' := d + 8) (i := 0) (q := q + 1) H' (by rw [ho]; rw [show q + 1 + 1 = q + 2 by omega]) hlt1 hw hMN (by rw [cx 122 (by decide) (by decide)]; exact hi) (by omega) (by rw [cx 123 (by decide) (by decide)]; exact hv) (by rw [cx 124 (by decide) (by decide)]; exact hx) (by rw [cx 125 (by decide) (by decide)]; exact hm) (by omega) (by omega) (lo := zc) (by omega) (qA_t hA (qGn_J jJ) (Int.le_refl _) (fun _ _ _ _ _ => rfl) (fun _ _ _ => rfl) hzc) (fun M' n s0 g1 g2 g3 => ?_))
      exact h5
    · refine l_55b (d := d + 3) hE hS hM.1 hM.2.1.1 (by omega) hM.2.1.2.2.2.1 (by omega) h40 h41 (fun M2 t1 t2 M' g1 g2 => ⟨rfl, ?_⟩)
      have jJ : qJ k N (x_up M2 120 k 4) := qJ_tr (qJ_P t2) (qJ_u (by omega))
      have cx : ∀ x, x ≠ 81 → x ≠ 120 → x_up M2 120 k 4 x = N x := fun x a b => by rw [x_up_ne b]; exact t2.1 x a
      have hMN := qM_J (st' := 4) hM (qT_c (q := 120) (k := k) (v := 4) t1 (by omega)) jJ (by rw [cx 119 (by decide) (by decide)]) (by rw [cx 121 (by decide) (by decide)]) (by rw [cx 126 (by decide) (by decide)]) (x_up_s rfl)
      generalize x_up M2 120 k 4 = A at *
      have hBN : qBn c A (q + 1) := qBn_R hB hMN.2.2 (by omega) (by omega)
      rcases h with ⟨a, h1, rfl⟩ | ⟨p1, z1, T1, v, h1, m, h2⟩
      · exact hL 0 (q + 1) zc T _ (by decide) (by omega) h1 d ρ e A R sl Q (k + 1) hMN.1 hBN hMN.2.1.1 (by omega) (by omega) (fun M3 w1 w2 w3 => qO_w hO w1 w2 (qGn_tr hMN.2.2.1 w3)) M' g1 g2
      have q0' := hG 0 (q + 1) zc T _ (by decide) (by omega) (by omega) (by omega) h1
      obtain ⟨y1, y2, y3, y4, y5, y6, y7, y8, y9⟩ := q0'
      refine hL 0 (q + 1) zc T _ (by decide) (by omega) h1 d ρ e A R sl Q (k + 1) hMN.1 hBN hMN.2.1.1 (by omega) (by omega) (fun M3 r3 hT3 hk3 hr3 hG3 hF3 hD3 hn3 => ?_) M' g1 g2
      have hM3 := qM_b hMN hT3 hk3 hG3 hF3 hD3
      have f : ∀ x, 119 ≤ x → x ≤ 126 → M3 x k = A x k := fun x a b => hF3.1 x k a b (by omega)
      have gG : qGn N M3 := qGn_tr (qGn_J jJ) hG3
      refine c_ca (q0 := q) (x0 := x0) (mi := mi) (f0 := v) H' hw hpq m 0 p1 z1 (t_u T1 (z * 9 + 5) v) v zc r3 _ _ M3 h2 hM3 (by omega) (by rw [f 122 (by omega) (by omega), cx 122 (by decide) (by decide), hi]; rfl) (by rw [f 123 (by omega) (by omega), cx 123 (by decide) (by decide)]; exact hv) (by rw [f 124 (by omega) (by omega), cx 124 (by decide) (by decide)]; exact hx) (by rw [f 125 (by omega) (by omega), cx 125 (by decide) (by decide)]; exact hm) hr3 (by omega) (by omega) (by omega) (by omega) (by rw [t_u_o (by omega)]; exact y8) (t_u_s rfl) ?_ eP_0 ?_
      · exact e_n_t (qN_rf M3) (fun x hx j a b => t_u_o (by have := hx.1.1; omega)) (fun j a b => t_u_o (by omega)) hn3
      · exact qA_t hA gG (Int.le_refl _) (fun j a b e _ => by rw [t_u_o e]; exact y7 j (by omega)) (fun j a b => by rw [t_u_o (by omega)]; exact y7 j (by omega)) hzc
  · exact l_55c (d := d + 3) hE hS hM.1 (by omega) (by have := hM.2.1.2.2.2.1; omega) h40 (fun M' w1 w2 w3 => ⟨rfl, qO_w hO w1 w2 (qGn_tr hM.2.2.1 w3)⟩)
/-- a call -/
theorem c_call (H : qH eX tk c prev dp 4 d Q ρ e M R sl k p z o M1) (ht : (tk p).1 = 3) (ht1 : z_M (tk (p + 1)) 123 ∨ z_M (tk (p + 1)) 40) (h : g_call tk prev z (p + 1) (z + 1) (t_u (t_u (t_u (t_ad T z 2 (tk p).2.1) (z * 9 + 2) (tk p).2.1) (z * 9 + 3) (tk p).2.2.1) (z * 9 + 0) 5) o) : xm_J tb_P eX tb_K0 174 (d + 13) 45 Q 11 [(0, .inr (.inr (some 82)))] [] (ρ, e, M1, R, sl) := by
  obtain ⟨hMn, v0, hlt⟩ := qP_n H ht
  have H' := H
  obtain ⟨⟨hS, hE, hz⟩, ⟨hL, hG⟩, hd, ⟨hT, hB, hk, k0, k1⟩, hO, hE1⟩ := H
  have hp := qT_p hT
  have T0 : ∀ i, 0 ≤ i → i < 9 → ∀ T0 : Int → Int, T0 = t_u (t_u (t_u (t_ad T z 2 (tk p).2.1) (z * 9 + 2) (tk p).2.1) (z * 9 + 3) (tk p).2.2.1) (z * 9 + 0) 5 → T0 (z * 9 + i) = (if i = 0 then 5 else if i = 1 then (tk p).2.1 else if i = 2 then (tk p).2.1 else if i = 3 then (tk p).2.2.1 else 0) := by
    rintro i i0 i9 T0 rfl
    by_cases h0 : i = 0
    · subst h0; rw [t_u_s rfl, if_pos rfl]
    rw [if_neg h0, t_u_o (by omega)]
    by_cases h3 : i = 3
    · subst h3; rw [t_u_s rfl, if_neg (by decide), if_neg (by decide), if_pos rfl]
    rw [t_u_o (by omega)]
    by_cases h2 : i = 2
    · subst h2; rw [t_u_s rfl, if_neg (by decide), if_pos rfl]
    rw [t_u_o (by omega), if_neg h2, if_neg h3]
    by_cases h1 : i = 1
    · subst h1; rw [t_ad_1 rfl, if_pos rfl]
    · rw [if_neg h1, t_ad_z (by omega)]
  generalize hT0 : t_u (t_u (t_u (t_ad T z 2 (tk p).2.1) (z * 9 + 2) (tk p).2.1) (z * 9 + 3) (tk p).2.2.1) (z * 9 + 0) 5 = T0' at h
  have t0 := T0 0 (by omega) (by omega) T0' hT0.symm
  have t1 := T0 1 (by omega) (by omega) T0' hT0.symm
  have t3 := T0 3 (by omega) (by omega) T0' hT0.symm
  have t5 := T0 5 (by omega) (by omega) T0' hT0.symm
  have t6 := T0 6 (by omega) (by omega) T0' hT0.symm
  rw [if_pos rfl] at t0
  rw [if_neg (by decide), if_pos rfl] at t1
  rw [if_neg (by decide), if_neg (by decide), if_neg (by decide), if_pos rfl] at t3
  rw [if_neg (by decide), if_neg (by decide), if_neg (by decide), if_neg (by decide)] at t5 t6
  refine qP_55 H' ht ?_
  generalize x_up (x_up M1 123 k (tk p).2.2.2.2) 81 6 (p + 1) = A at *
  have cy : ∀ x, x ≠ 122 → x ≠ 124 → x ≠ 125 → x_up (x_up (x_up A 124 k (A 81 34)) 125 k 0) 122 k 0 x = A x := fun x a b f => by rw [x_up_ne a, x_up_ne f, x_up_ne b]
  have jA : qJ k A (x_up (x_up (x_up A 124 k (A 81 34)) 125 k 0) 122 k 0) := qJ_tr (qJ_u (by omega)) (qJ_tr (qJ_u (by omega)) (qJ_u (by omega)))
  have tA : qT tk c (x_up (x_up (x_up A 124 k (A 81 34)) 125 k 0) 122 k 0) (p + 1) := qT_c (qT_c (qT_c hMn.1 (by omega)) (by omega)) (by omega)
  have a122 : x_up (x_up (x_up A 124 k (A 81 34)) 125 k 0) 122 k 0 122 k = 0 := x_up_s rfl
  have a124 : x_up (x_up (x_up A 124 k (A 81 34)) 125 k 0) 122 k 0 124 k = A 81 34 := by rw [x_up_p (by decide), x_up_p (by decide), x_up_s rfl]
  have a125 : x_up (x_up (x_up A 124 k (A 81 34)) 125 k 0) 122 k 0 125 k = 0 := by rw [x_up_p (by decide), x_up_s rfl]
  have hMA := qM_J (st' := 0) hMn tA jA (by rw [cy 119 (by decide) (by decide) (by decide)]) (by rw [cy 121 (by decide) (by decide) (by decide)]) (by rw [cy 126 (by decide) (by decide) (by decide)]) (by rw [cy 120 (by decide) (by decide) (by decide)]; exact hMn.2.1.2.2.1)
  rcases h with ⟨h123, h⟩ | ⟨h123, h⟩
  · have hlt1 : p + 1 < c := z_M_lt hS (by omega) h123
    refine q_55f (d := d + 3) hE hS hMn.1 (by omega) h123 ?_
    have jB := qJ_tr jA (qJ_6 (k := k) (v := p + 1 + 1))
    have tB := (qT_nx tA hlt1).1
    have cz : ∀ x, x ≠ 81 → x_up (x_up (x_up (x_up A 124 k (A 81 34)) 125 k 0) 122 k 0) 81 6 (p + 1 + 1) x = x_up (x_up (x_up A 124 k (A 81 34)) 125 k 0) 122 k 0 x := fun x a => x_up_ne a
    have hMB := qM_J (st' := 0) hMn tB jB (by rw [cz 119 (by decide), cy 119 (by decide) (by decide) (by decide)]) (by rw [cz 121 (by decide), cy 121 (by decide) (by decide) (by decide)]) (by rw [cz 126 (by decide), cy 126 (by decide) (by decide) (by decide)]) (by rw [cz 120 (by decide), cy 120 (by decide) (by decide) (by decide)]; exact hMn.2.1.2.2.1)
    rw [← cz 122 (by decide)] at a122
    rw [← cz 124 (by decide)] at a124
    rw [← cz 125 (by decide)] at a125
    have b123 : x_up (x_up (x_up (x_up A 124 k (A 81 34)) 125 k 0) 122 k 0) 81 6 (p + 1 + 1) 123 k = (tk p).2.2.2.2 := by rw [cz 123 (by decide), cy 123 (by decide) (by decide) (by decide)]; exact v0
    have b34 : x_up (x_up (x_up (x_up A 124 k (A 81 34)) 125 k 0) 122 k 0) 81 6 (p + 1 + 1) 81 34 = A 81 34 := jB.2.1 34 (by decide)
    generalize x_up (x_up (x_up (x_up A 124 k (A 81 34)) 125 k 0) 122 k 0) 81 6 (p + 1 + 1) = B at *
    have hBB := qBn_R hB hMB.2.2 (p' := p + 1 + 1) (by omega) (by omega)
    obtain ⟨⟨⟨b1, b2⟩, ⟨b3, b4⟩, -⟩, -⟩ := hBB
    dsimp only at b2 b4
    rcases h with ⟨a, h1, rfl⟩ | ⟨L, p1, m, h1, h2⟩
    · refine q_56n (d := d + 3) hE hS tB (by omega) (.inl h1) a125 b1 (by omega) b3 (by omega) (fun M' w1 w2 w3 => ⟨rfl, ?_⟩)
      obtain ⟨v1, v2, v3⟩ := qGk_W' (k := k) (v := 4) w1 w2 (qGn_tr hMB.2.2.1 (qGn_k w3))
      refine l_55w (d := d + 3) hE (by omega) ?_ w1 ⟨rfl, qO_w hO v1 v2 v3⟩
      rw [w3.1 121 (by decide) (by decide) (by decide)]
      have := hMB.2.1.2.2.2.1
      omega
    have q1 := z_I_p hS (p := p + 1 + 1) (by omega) h1
    obtain ⟨k1', k2'⟩ := z_I_k hS (p := p + 1 + 1) (by omega) h1
    have hpl := z_I_pl h1
    rcases h2 with ⟨a, h2, rfl⟩ | ⟨p2, z2, T2, v', h2, h3⟩
    · rcases g_ci_d m _ _ _ _ _ _ h2 with ⟨a', m', h4, h5⟩ | ⟨l, p', h4, h5⟩
      · cases h5
        refine q_56n (d := d + 3) hE hS tB (by omega) (.inr ⟨L, p1, m', h1, h4⟩) a125 b1 (by omega) b3 (by omega) (fun M' w1 w2 w3 => ⟨rfl, ?_⟩)
        obtain ⟨v1, v2, v3⟩ := qGk_W' (k := k) (v := 4) w1 w2 (qGn_tr hMB.2.2.1 (qGn_k w3))
        refine l_55w (d := d + 3) hE (by omega) ?_ w1 ⟨rfl, qO_w hO v1 v2 v3⟩
        rw [w3.1 121 (by decide) (by decide) (by decide)]
        have := hMB.2.1.2.2.2.1
        omega
      · cases h5
    rcases g_ci_d m _ _ _ _ _ _ h2 with ⟨a', m', h4, h5⟩ | ⟨l, p', h4, h5⟩
    · cases h5
    cases h5
    obtain ⟨l1, l2, l3, l4⟩ := z_J_k hS (p := p1) (by omega) h4
    have l5 : (l.length : Int) ≤ 3 := by omega
    rcases h3 with ⟨h5, h3⟩ | ⟨h5, rfl⟩
    · have hlt2 : p2 < c := z_M_lt hS (by omega) h5
      refine q_56 (d := d + 3) hE hS tB (by omega) h1 h4 a125 b1 (by omega) b3 (by omega) h5 (fun M' s1 s2 s3 s4 s5 s6 s7 => ⟨rfl, ?_⟩)
      rw [b34] at s4
      -- the tree
      rw [← hpl] at h3
      obtain ⟨u1, ⟨u2, u2'⟩, u3, u4⟩ := t_ci1 (T := T0') (z := z + 1) (q := z * 9 + 6) (by omega) (by omega) ⟨k1', k2'⟩
      have u5 : t_u (t_u (t_ix (t_ad T0' (z + 1) 17 (z_pl L)) (z + 1 + 1) 0 L) ((z + 1) * 9 + 5) (z + 1 + 1)) (z * 9 + 6) (z + 1) (z * 9 + 6) = z + 1 := t_u_s rfl
      generalize t_u (t_u (t_ix (t_ad T0' (z + 1) 17 (z_pl L)) (z + 1 + 1) 0 L) ((z + 1) * 9 + 5) (z + 1 + 1)) (z * 9 + 6) (z + 1) = B1 at *
      obtain ⟨i1, i2⟩ := t_ci_C l B1 (z + 1 + 1 + L.length) (z + 1) (by omega) (by omega) u2 l1
      have hl0 := z_cn_0 l
      have tz : ∀ i, 0 ≤ i → i < 9 → i ≠ 6 → t_ci B1 (z + 1 + 1 + L.length) (z + 1) l (z * 9 + i) = T0' (z * 9 + i) := fun i a b f => by rw [i2 _ (by omega) (by omega)]; exact u4 _ (by omega) (by omega)
      have iC : isC (t_ci B1 (z + 1 + 1 + L.length) (z + 1) l) (z + 1) (z + 1 + 1 + L.length + z_cn l) (z + 1) (L :: l) := by
        refine ⟨⟨Int.le_refl _, by omega⟩, ⟨?_, by rw [i2 _ (by omega) (by omega)]; exact u2'⟩, isC_fr (fun _ _ _ => rfl) (by omega) (Int.le_refl _) i1⟩
        rw [i2 _ (by omega) (by omega), u1]
        exact ixC_fr (fun j q1 q2 => i2 j (by omega) (by omega)) (by omega) (by omega) u3
      have e5 := e_i_L (fun x hx => by
        rcases List.mem_cons.mp hx with rfl | hx
        · exact ⟨k1', k2'⟩
        · exact l1 x hx) s4 iC
      have e6 := hMB.2.1
      have gR : qR k (p2 - (p + 1 + 1) + 1) 0 B M' := by
        have g := s7.2.1
        have g21 := g 21 (by decide) (by decide) (by decide) (by decide) (by decide)
        have g38 := g 38 (by decide) (by decide) (by decide) (by decide) (by decide)
        have g42 := g 42 (by decide) (by decide) (by decide) (by decide) (by decide)
        have g48 := g 48 (by decide) (by decide) (by decide) (by decide) (by decide)
        exact ⟨qGn_k s7, qFr_k s7, by omega, by omega, by omega, by omega, by omega, by omega⟩
      have cw : ∀ x, x ≠ 81 → x ≠ 125 → (x < 104 ∨ 109 < x) → M' x = B x := s7.1
      have hMC : qM tk c k 4 0 dp (tk p).2.1 (p2 + 1) (0 + (p2 - (p + 1 + 1) + 1)) 0 M M' := ⟨s1, ⟨(s7.2.1 51 (by decide) (by decide) (by decide) (by decide) (by decide)).trans e6.1, by rw [cw 119 (by decide) (by decide) (by decide)]; exact e6.2.1, by rw [cw 120 (by decide) (by decide) (by decide)]; exact e6.2.2.1, by rw [cw 121 (by decide) (by decide) (by decide)]; exact e6.2.2.2.1, by rw [cw 126 (by decide) (by decide) (by decide)]; exact e6.2.2.2.2⟩, qR_tr hMB.2.2 gR⟩
      refine c_c2 (mi := 1 + l.length) (x0 := A 81 34) H' ht h3 hMC (by rw [cw 122 (by decide) (by decide) (by decide)]; exact a122) (by rw [cw 123 (by decide) (by decide) (by decide)]; exact b123) (by rw [cw 124 (by decide) (by decide) (by decide)]; exact a124) s2 (by omega) (by omega) (by omega) (by rw [tz 5 (by omega) (by omega) (by omega)]; exact t5) ⟨⟨?_, ?_, ?_⟩, by omega, z + 1, z + 1 + 1 + L.length + z_cn l, by omega, Int.le_refl _, ?_⟩
      · rw [tz 0 (by omega) (by omega) (by omega)]; exact t0
      · rw [tz 1 (by omega) (by omega) (by omega)]; exact t1
      · rw [tz 3 (by omega) (by omega) (by omega)]; exact t3
      · rw [i2 _ (by omega) (by omega), u5, show (1 + (l.length : Int)).toNat = (L :: l).length by rw [List.length_cons]; omega]
        exact e5
    · refine q_56m (d := d + 3) hE hS tB (by omega) h1 h4 a125 b1 (by omega) b3 (by omega) h5 (fun M' w1 w2 w3 => ⟨rfl, ?_⟩)
      obtain ⟨v1, v2, v3⟩ := qGk_W' (k := k) (v := 4) w1 w2 (qGn_tr hMB.2.2.1 (qGn_k w3))
      refine l_55w (d := d + 3) hE (by omega) ?_ w1 ⟨rfl, qO_w hO v1 v2 v3⟩
      rw [w3.1 121 (by decide) (by decide) (by decide)]
      have := hMB.2.1.2.2.2.1
      omega
  · have h40 : z_M (tk (p + 1)) 40 := by rcases ht1 with ht1 | ht1; exact absurd ht1 h123; exact ht1
    refine q_55e (d := d + 3) hE hS hMn.1 (by omega) h40 ?_
    refine c_c2 (mi := 0) (x0 := A 81 34) H' ht h hMA a122 (by rw [cy 123 (by decide) (by decide) (by decide)]; exact v0) a124 a125 (by omega) (by omega) (by omega) t5 ⟨⟨t0, t1, t3⟩, by omega, z + 1, z + 1, by omega, Int.le_refl _, t6⟩
/-- a part -/
theorem qX_part (hE : ∀ j, (eX j).1 ≤ 1000000) (hS : t_S tk c) (hL : qL eX tk c prev (dp + 1)) (hG : g_ok c prev) (hd : 1 ≤ dp ∧ dp ≤ 12) : qXo eX tk c 4 (g_part tk prev) dp := by
  intro p z T o hz h d ρ e M R sl Q k hT hB hk k0 k1 hO M1 h1 h2
  have H : qH eX tk c prev dp 4 d Q ρ e M R sl k p z o M1 := ⟨⟨hS, hE, hz⟩, ⟨hL, hG⟩, hd, ⟨hT, hB, hk, k0, k1⟩, hO, h1 hd.2⟩
  rcases h with ⟨a, b⟩ | ⟨a, b⟩ | ⟨a, b⟩ | ⟨a, b⟩ | ⟨a, b⟩ | ⟨a, b⟩ | ⟨a1, a2, a3, a4, a5, a6, b⟩
  · exact c_num H a b
  · exact c_par H a b
  · exact c_len H a b
  · exact c_word (vv := 6) (s := 7) H (.inl ⟨a, rfl⟩) rfl b
  · exact c_word (vv := 7) (s := 8) H (.inr ⟨a, rfl⟩) rfl b
  · rcases b with ⟨b1, b2⟩ | ⟨b1, b2⟩ | ⟨b1, b2, b3, b4⟩
    · exact c_get H a b1 b2
    · exact c_call H a b1 b2
    · exact c_var H a b1 b2 b3 b4
  · exact c_no H a1 a2 a3 a4 a5 a6 b
end

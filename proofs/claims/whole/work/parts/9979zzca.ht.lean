/-! HOW DEEP the class's trees are: v stands in lo to hi, t frames and w values are enough for it; parts of a node lie apart from each other -/
def h_n (k : Int) (n : Nat) : Prop := ((k = 1 ∨ k = 2 ∨ k = 6) ∧ n = 0) ∨ ((k = 3 ∨ k = 7 ∨ k = 8 ∨ k = 9 ∨ k = 10) ∧ n = 1) ∨ ((k = 4 ∨ k = 14) ∧ n = 2) ∨ (k = 15 ∧ n = 4) ∨ (k = 5 ∧ n ≤ 5) ∨ ((k = 11 ∨ k = 12 ∨ k = 13) ∧ 2 ≤ n)
def h_c (k : Int) (n : Nat) : Int := if k = 10 then 2 else if 11 ≤ k ∧ k ≤ 13 then n else 1
def h_k (k : Int) : Int := if k = 5 then 9 else if k = 10 then 15 else if k = 15 then 3 else if k = 4 then 2 else 1
def h_e (k f : Int) : Prop := k = 5 ∨ (11 ≤ k ∧ k ≤ 13) → f = 0
def htc (T : Int → Int) (P : Int → Int → Int → Prop) (E : Int → Prop) (v : Int) : Nat → Int → Int → Int → Prop
  | 0, _, _, f => E f
  | n + 1, lo, hi, f => ∃ a b, (lo ≤ a ∧ b ≤ hi ∧ (v < a ∨ b ≤ v)) ∧ P a b f ∧ htc T P E v n b hi (t_nx T f)
def ht (T : Int → Int) : Nat → Int → Int → Int → Int → Int → Prop
  | 0, _, _, _, _, _ => False
  | L + 1, lo, hi, v, t, w => (lo ≤ v ∧ v < hi) ∧ (1 ≤ t ∧ 0 ≤ w) ∧ ∃ n, h_n (T (v * 9 + 0)) n ∧ htc T (fun a b f => ht T L a b f (t - h_c (T (v * 9 + 0)) n) (w - h_k (T (v * 9 + 0)))) (h_e (T (v * 9 + 0))) v n lo hi (T (v * 9 + 5))
theorem ht_in {T : Int → Int} {L : Nat} {lo hi v t w : Int} (h : ht T L lo hi v t w) : (lo ≤ v ∧ v < hi) ∧ 1 ≤ t ∧ 0 ≤ w := by
  cases L with
  | zero => exact h.elim
  | succ L => exact ⟨h.1, h.2.1⟩
theorem htc_mono {T : Int → Int} {P P' : Int → Int → Int → Prop} {E E' : Int → Prop} {v : Int} (hP : ∀ a b f, P a b f → P' a b f) (hE : ∀ f, E f → E' f) : ∀ {n : Nat} {lo hi lo' hi' f : Int}, lo' ≤ lo → hi ≤ hi' → htc T P E v n lo hi f → htc T P' E' v n lo' hi' f
  | 0, _, _, _, _, f, _, _, h => hE f h
  | n + 1, _, _, _, _, f, h1, h2, ⟨a, b, ⟨c1, c2, c3⟩, c4, c5⟩ => ⟨a, b, ⟨by omega, by omega, c3⟩, hP _ _ _ c4, htc_mono hP hE (Int.le_refl _) h2 c5⟩
theorem ht_mono {T : Int → Int} : ∀ {L L' : Nat} {lo hi v t w lo' hi' t' w' : Int}, L ≤ L' → lo' ≤ lo → hi ≤ hi' → t ≤ t' → w ≤ w' → ht T L lo hi v t w → ht T L' lo' hi' v t' w'
  | 0, _, _, _, _, _, _, _, _, _, _, _, _, _, _, _, h => h.elim
  | L + 1, 0, _, _, _, _, _, _, _, _, _, hL, _, _, _, _, _ => by omega
  | L + 1, L' + 1, _, _, _, _, _, _, _, _, _, hL, h1, h2, h3, h4, ⟨a1, a2, n, a3, a4⟩ => ⟨by omega, by omega, n, a3, htc_mono (fun _ _ _ q => ht_mono (by omega) (Int.le_refl _) (Int.le_refl _) (by omega) (by omega) q) (fun _ q => q) h1 h2 a4⟩
theorem htc_fr {T T' : Int → Int} {P P' : Int → Int → Int → Prop} {E : Int → Prop} {v lo hi : Int} (hP : ∀ a b f, lo ≤ a → b ≤ hi → (v < a ∨ b ≤ v) → P a b f → P' a b f ∧ t_nx T' f = t_nx T f ∧ a < b) : ∀ {n : Nat} {l f : Int}, lo ≤ l → htc T P E v n l hi f → htc T' P' E v n l hi f
  | 0, _, f, _, h => h
  | n + 1, _, f, hl, ⟨a, b, ⟨c1, c2, c3⟩, c4, c5⟩ => by
    obtain ⟨p1, p2, p3⟩ := hP a b f (by omega) c2 c3 c4
    refine ⟨a, b, ⟨c1, c2, c3⟩, p1, ?_⟩
    rw [p2]
    exact htc_fr hP (by omega) c5
theorem ht_fr {T T' : Int → Int} : ∀ {L : Nat} {lo hi v t w : Int}, (∀ j, lo * 9 ≤ j → j < hi * 9 → j ≠ v * 9 + 7 → j ≠ v * 9 + 8 → T' j = T j) → ht T L lo hi v t w → ht T' L lo hi v t w
  | 0, _, _, _, _, _, _, h => h.elim
  | L + 1, lo, hi, v, t, w, hT, ⟨a1, a2, n, a3, a4⟩ => by
    have e0 : T' (v * 9 + 0) = T (v * 9 + 0) := hT _ (by omega) (by omega) (by omega) (by omega)
    have e5 : T' (v * 9 + 5) = T (v * 9 + 5) := hT _ (by omega) (by omega) (by omega) (by omega)
    refine ⟨a1, a2, n, by rw [e0]; exact a3, ?_⟩
    rw [e0, e5]
    refine htc_fr (lo := lo) (fun a b f b1 b2 b3 b4 => ?_) (Int.le_refl _) a4
    have i1 := ht_in b4
    exact ⟨ht_fr (fun j c1 c2 _ _ => hT j (by omega) (by omega) (by omega) (by omega)) b4, t_nx_fr (hT _ (by omega) (by omega) (by omega) (by omega)), by omega⟩
theorem ht_lf {T : Int → Int} {L : Nat} {lo hi v t w : Int} (hk : T (v * 9 + 0) = 1 ∨ T (v * 9 + 0) = 2 ∨ T (v * 9 + 0) = 6) (hv : lo ≤ v ∧ v < hi) (h1 : 1 ≤ t ∧ 0 ≤ w) : ht T (L + 1) lo hi v t w := ⟨hv, h1, 0, .inl ⟨hk, rfl⟩, fun q => absurd q (by omega)⟩
theorem ht_on {T : Int → Int} {L : Nat} {lo hi v t w a b f t1 w1 : Int} (hk : T (v * 9 + 0) = 3 ∨ T (v * 9 + 0) = 7 ∨ T (v * 9 + 0) = 8 ∨ T (v * 9 + 0) = 9 ∨ T (v * 9 + 0) = 10) (hv : lo ≤ v ∧ v < hi) (hf : T (v * 9 + 5) = f) (hab : lo ≤ a ∧ b ≤ hi ∧ (v < a ∨ b ≤ v)) (h : ht T L a b f t1 w1) (h1 : t1 + 1 ≤ t) (h2 : T (v * 9 + 0) = 10 → t1 + 2 ≤ t) (h3 : w1 + 15 ≤ w) : ht T (L + 1) lo hi v t w := by
  have i1 := ht_in h
  refine ⟨hv, by omega, 1, .inr (.inl ⟨hk, rfl⟩), a, b, hab, ?_, fun q => absurd q (by omega)⟩
  rw [hf]
  refine ht_mono (Nat.le_refl _) (Int.le_refl _) (Int.le_refl _) ?_ ?_ h
  · unfold h_c
    split
    · have := h2 (by assumption); omega
    · rw [if_neg (by omega)]; omega
  · unfold h_k
    rw [if_neg (by omega)]
    split
    · omega
    · rw [if_neg (by omega), if_neg (by omega)]
      omega
/-- one more operand before those behind it -/
theorem htc_add {T' T1 : Int → Int} {L L1 m : Nat} {E : Int → Prop} {z z1 z' v last node t t0 w w0 : Int} (h1 : ht T1 L1 z z1 v t0 w0) (hfr : ∀ j, z * 9 ≤ j → j < z1 * 9 → j ≠ v * 9 + 7 → j ≠ v * 9 + 8 → T' j = T1 j) (hnx : T' (last * 9 + 7) = v) (hlv : last < v) (hn : node < z ∨ z1 ≤ node) (hL : L1 ≤ L) (ht0 : t0 ≤ t) (hw0 : w0 ≤ w) (hzz : z1 ≤ z') (ih : htc T' (fun a b f => ht T' L a b f t w) E node m z1 z' (t_nx T' v)) : htc T' (fun a b f => ht T' L a b f t w) E node (m + 1) z z' (t_nx T' last) := by
  have e : t_nx T' last = v := by
    unfold t_nx
    rw [hnx, if_pos hlv]
  rw [e]
  exact ⟨z, z1, ⟨Int.le_refl _, hzz, hn⟩, ht_mono hL (Int.le_refl _) (Int.le_refl _) ht0 hw0 (ht_fr hfr h1), ih⟩
theorem t_nx_z {T : Int → Int} {f : Int} (h : T (f * 9 + 7) = 0) (hf : 1 ≤ f) : t_nx T f = 0 := by
  unfold t_nx
  rw [h, if_neg (by omega)]
/-- of all that comes out -/
def g_H (c : Int) (L : Nat) (W : Int) (P : Int → Int → (Int → Int) → g_o → Prop) : Prop := ∀ p z T p' z' T' v, 0 ≤ p → p ≤ c → 1 ≤ z → P p z T (.inr (p', z', T', v)) → ht T' L z z' v (p' - p) W
section
variable {tk : Int → t_t} {c : Int} {prev : g_T} {L : Nat} {W : Int}
theorem g_ca_H (hS : t_S tk c) (hp0 : g_ok c prev) (hH : ∀ w, w ≤ 4 → g_H c L W (prev w)) {node : Int} : ∀ (m : Nat) (k p z : Int) (T : Int → Int) (last p' z' : Int) (T' : Int → Int) (v : Int), 0 ≤ p → p ≤ c → 1 ≤ last → last < z → node < z → T (last * 9 + 7) = 0 → k ≤ 5 → g_ca tk prev m k p z T last (.inr (p', z', T', v)) → (m : Int) + k ≤ 5 ∧ p ≤ p' ∧ htc T' (fun a b f => ht T' L a b f (p' - p) W) (fun f => f = 0) node m z z' (t_nx T' last)
  | 0, k, p, z, T, last, p', z', T', v, hp, hc, hl, hl2, hn, h7, hk, ⟨h0, h⟩ => by
    cases h
    exact ⟨by omega, Int.le_refl _, t_nx_z h7 hl⟩
  | m + 1, k, p, z, T, last, p', z', T', v, hp, hc, hl, hl2, hn, h7, hk, ⟨h1, h2, h3⟩ => by
    have q1 := z_M_lt hS ⟨hp, hc⟩ h2
    rcases h3 with ⟨a, -, h⟩ | ⟨p1, z1, T1, u, h3, h4⟩
    · cases h
    · obtain ⟨a1, a2, a3, a4, a5, a6, a7, a8, a9⟩ := hp0 0 (p + 1) z T _ (by omega) (by omega) (by omega) (by omega) h3
      have hh := hH 0 (by omega) (p + 1) z T p1 z1 T1 u (by omega) (by omega) (by omega) h3
      obtain ⟨i1, i2, i3, i4, i5⟩ := g_ca_ok hS hp0 m (k + 1) p1 z1 _ u _ (by omega) a2 (by omega) a6 h4
      obtain ⟨j1, j2, j3⟩ := g_ca_H hS hp0 hH (node := node) m (k + 1) p1 z1 _ u p' z' T' v (by omega) a2 (by omega) a6 (by omega) (by rw [t_u_o (by omega)]; exact a8) (by omega) h4
      refine ⟨by omega, by omega, htc_add hh (fun j b1 b2 b3 b4 => ?_) ?_ (by omega) (by omega) (Nat.le_refl _) (by omega) (Int.le_refl _) i3 (htc_mono (fun _ _ _ q => ht_mono (Nat.le_refl _) (Int.le_refl _) (Int.le_refl _) (by omega) (Int.le_refl _) q) (fun _ q => q) (Int.le_refl _) (Int.le_refl _) j3)⟩
      · rw [i5 j b2 b3, t_u_o (by omega)]
      · rw [i5 _ (by omega) (by omega), t_u_s rfl]
theorem g_c2_H (hS : t_S tk c) (hp0 : g_ok c prev) (hH : ∀ w, w ≤ 4 → g_H c L W (prev w)) {n p z p' z' v : Int} {T T' : Int → Int} (hp : 0 ≤ p) (hc : p ≤ c) (hn : 1 ≤ n) (hnz : n < z) (h5 : T (n * 9 + 5) = 0) (h : g_c2 tk prev n p z T (.inr (p', z', T', v))) : ∃ m : Nat, m ≤ 5 ∧ htc T' (fun a b f => ht T' L a b f (p' - p - 1) W) (fun f => f = 0) n m z z' (T' (n * 9 + 5)) := by
  rcases h with ⟨h1, h⟩ | ⟨h1, h⟩
  · have q1 := z_M_lt hS ⟨hp, hc⟩ h1
    rcases h with ⟨h2, h⟩ | ⟨h2, h⟩
    · cases h
      exact ⟨0, by omega, h5⟩
    · rcases h with ⟨a, -, h⟩ | ⟨p1, z1, T1, u, h3, m, h4⟩
      · cases h
      · obtain ⟨a1, a2, a3, a4, a5, a6, a7, a8, a9⟩ := hp0 0 (p + 1) z T _ (by omega) (by omega) (by omega) (by omega) h3
        have hh := hH 0 (by omega) (p + 1) z T p1 z1 T1 u (by omega) (by omega) (by omega) h3
        rcases h4 with ⟨a, -, h⟩ | ⟨p2, z2, T2, v2, h4, h5'⟩
        · cases h
        · obtain ⟨i1, i2, i3, i4, i5⟩ := g_ca_ok hS hp0 m 1 p1 z1 _ u _ (by omega) a2 (by omega) a6 h4
          obtain ⟨j1, j2, j3⟩ := g_ca_H hS hp0 hH (node := n) m 1 p1 z1 _ u p2 z2 T2 v2 (by omega) a2 (by omega) a6 (by omega) (by rw [t_u_o (by omega)]; exact a8) (by omega) h4
          rcases h5' with ⟨h5', h⟩ | ⟨-, h⟩
          · cases h
            refine ⟨m + 1, by omega, ?_⟩
            have e : T' (n * 9 + 5) = u := by rw [i5 _ (by omega) (by omega), t_u_s rfl]
            rw [e]
            refine ⟨z, z1, ⟨Int.le_refl _, i3, by omega⟩, ht_mono (Nat.le_refl _) (Int.le_refl _) (Int.le_refl _) (by omega) (Int.le_refl _) (ht_fr (fun j b1 b2 b3 b4 => ?_) hh), htc_mono (fun _ _ _ q => ht_mono (Nat.le_refl _) (Int.le_refl _) (Int.le_refl _) (by omega) (Int.le_refl _) q) (fun _ q => q) (Int.le_refl _) (Int.le_refl _) j3⟩
            rw [i5 j b2 b3, t_u_o (by omega)]
          · cases h
  · cases h
/-- a call's node -/
theorem ht_cl {T : Int → Int} {m : Nat} {lo hi v t w t1 w1 z z' : Int} (hk : T (v * 9 + 0) = 5) (hv : lo ≤ v ∧ v < hi) (hm : m ≤ 5) (hz : lo ≤ z ∧ z' ≤ hi) (h : htc T (fun a b f => ht T L a b f t1 w1) (fun f => f = 0) v m z z' (T (v * 9 + 5))) (h1 : t1 + 1 ≤ t ∧ 1 ≤ t) (h3 : w1 + 9 ≤ w ∧ 0 ≤ w1) : ht T (L + 1) lo hi v t w := by
  refine ⟨hv, by omega, m, .inr (.inr (.inr (.inr (.inl ⟨hk, hm⟩)))), htc_mono (fun _ _ _ q => ht_mono (Nat.le_refl _) (Int.le_refl _) (Int.le_refl _) ?_ ?_ q) (fun _ q _ => q) hz.1 hz.2 h⟩
  · unfold h_c
    rw [if_neg (by omega), if_neg (by omega)]
    omega
  · unfold h_k
    rw [if_pos hk]
    omega
theorem g_part_H (hS : t_S tk c) (hp0 : g_ok c prev) (hW : 0 ≤ W) (hH : ∀ w, w ≤ 4 → g_H c L W (prev w)) : g_H c (L + 1) (W + 15) (g_part tk prev) := by
  intro p z T p' z' T' v hp hc hz h
  rcases h with ⟨h1, h⟩ | ⟨h1, h⟩ | ⟨h1, h⟩ | ⟨h1, h⟩ | ⟨h1, h⟩ | ⟨h1, h⟩ | ⟨-, -, -, -, -, -, h⟩
  · cases h
    exact ht_lf (.inl (by rw [t_u_o (by omega), t_ad_0 rfl])) (by omega) (by omega)
  · have q1 := z_M_lt hS ⟨hp, hc⟩ h1
    rcases h with ⟨a, -, h⟩ | ⟨p1, z1, T1, u, h2, h3⟩
    · cases h
    · obtain ⟨a1, a2, a3, a4, a5, a6, a7, a8, a9⟩ := hp0 0 (p + 1) (z + 1) _ _ (by omega) (by omega) (by omega) (by omega) h2
      have hh := hH 0 (by omega) (p + 1) (z + 1) _ p1 z1 T1 u (by omega) (by omega) (by omega) h2
      rcases h3 with ⟨h3, h4⟩ | ⟨h3, h4⟩
      · have q2 := z_M_lt hS (p := p1) (by omega) h3
        rcases h4 with ⟨a, -, h⟩ | ⟨x, p2, h4, h5⟩
        · cases h
        · have q3 := z_Ty_p hS (p := p1 + 1) (by omega) h4
          rcases h5 with ⟨h5, h⟩ | ⟨-, h⟩
          · cases h
            refine ht_on (a := z + 1) (b := z1) (f := u) (.inr (.inr (.inr (.inr ?_)))) (by omega) ?_ (by omega) (ht_fr (fun j b1 b2 b3 b4 => ?_) hh) (by omega) (fun _ => by omega) (by omega)
            · rw [t_u_o (by omega), t_ty_lo (by omega), t_u_s rfl]
            · rw [t_u_o (by omega), t_ty_lo (by omega), t_u_o (by omega), t_u_s rfl]
            · rw [t_u_o (by omega), t_ty_lo (by omega), t_u_o (by omega), t_u_o (by omega)]
          · cases h
      · rcases h4 with ⟨h4, h⟩ | ⟨-, h⟩
        · cases h
          have e0 : t_u T1 (z * 9 + 5) u (z * 9 + 0) = 9 := by rw [t_u_o (by omega), a7 _ (by omega), t_ad_0 rfl]
          refine ht_on (a := z + 1) (b := z') (f := u) (.inr (.inr (.inr (.inl e0)))) (by omega) (t_u_s rfl) (by omega) (ht_fr (fun j b1 b2 b3 b4 => ?_) hh) (by omega) (fun q => by omega) (by omega)
          rw [t_u_o (by omega)]
        · cases h
  · rcases h with ⟨h2, h⟩ | ⟨-, h⟩
    · cases h
      exact ht_lf (.inr (.inr (by rw [t_u_o (by omega), t_u_o (by omega), t_ad_0 rfl]))) (by omega) (by omega)
    · cases h
  · have q1 := z_W_lt hS ⟨hp, hc⟩ h1
    rcases h with ⟨a, -, h⟩ | ⟨p1, z1, T1, u, h2, h⟩
    · cases h
    · obtain ⟨a1, a2, a3, a4, a5, a6, a7, a8, a9⟩ := hp0 4 (p + 1) (z + 1) _ _ (by omega) (by omega) (by omega) (by omega) h2
      have hh := hH 4 (by omega) (p + 1) (z + 1) _ p1 z1 T1 u (by omega) (by omega) (by omega) h2
      cases h
      have e0 : t_u T1 (z * 9 + 5) u (z * 9 + 0) = 7 := by rw [t_u_o (by omega), a7 _ (by omega), t_ad_0 rfl]
      refine ht_on (a := z + 1) (b := z') (f := u) (.inr (.inl e0)) (by omega) (t_u_s rfl) (by omega) (ht_fr (fun j b1 b2 b3 b4 => ?_) hh) (by omega) (fun q => by omega) (by omega)
      rw [t_u_o (by omega)]
  · have q1 := z_W_lt hS ⟨hp, hc⟩ h1
    rcases h with ⟨a, -, h⟩ | ⟨p1, z1, T1, u, h2, h⟩
    · cases h
    · obtain ⟨a1, a2, a3, a4, a5, a6, a7, a8, a9⟩ := hp0 4 (p + 1) (z + 1) _ _ (by omega) (by omega) (by omega) (by omega) h2
      have hh := hH 4 (by omega) (p + 1) (z + 1) _ p1 z1 T1 u (by omega) (by omega) (by omega) h2
      cases h
      have e0 : t_u T1 (z * 9 + 5) u (z * 9 + 0) = 8 := by rw [t_u_o (by omega), a7 _ (by omega), t_ad_0 rfl]
      refine ht_on (a := z + 1) (b := z') (f := u) (.inr (.inr (.inl e0))) (by omega) (t_u_s rfl) (by omega) (ht_fr (fun j b1 b2 b3 b4 => ?_) hh) (by omega) (fun q => by omega) (by omega)
      rw [t_u_o (by omega)]
  · have q1 := z_lt hS ⟨hp, hc⟩ (by rw [h1]; decide)
    rcases h with ⟨h2, h⟩ | ⟨h2, h⟩ | ⟨-, -, -, h⟩
    · have q2 := z_M_lt hS (p := p + 1) (by omega) h2
      rcases h with ⟨a, -, h⟩ | ⟨p1, z1, T1, u, h3, h4⟩
      · cases h
      · obtain ⟨a1, a2, a3, a4, a5, a6, a7, a8, a9⟩ := hp0 2 (p + 2) (z + 1) _ _ (by omega) (by omega) (by omega) (by omega) h3
        have hh := hH 2 (by omega) (p + 2) (z + 1) _ p1 z1 T1 u (by omega) (by omega) (by omega) h3
        rcases h4 with ⟨h4, h⟩ | ⟨-, h⟩
        · cases h
          have e0 : t_u T1 (z * 9 + 5) u (z * 9 + 0) = 3 := by rw [t_u_o (by omega), a7 _ (by omega), t_u_s rfl]
          refine ht_on (a := z + 1) (b := z') (f := u) (.inl e0) (by omega) (t_u_s rfl) (by omega) (ht_fr (fun j b1 b2 b3 b4 => ?_) hh) (by omega) (fun q => by omega) (by omega)
          rw [t_u_o (by omega)]
        · cases h
    · have q2 : p + 1 < c := by rcases h2 with h2 | h2; exact z_M_lt hS (by omega) h2; exact z_M_lt hS (by omega) h2
      rcases h with ⟨h3, h4⟩ | ⟨h3, h4⟩
      · rcases h4 with ⟨a, -, h⟩ | ⟨K, p1, m, h4, h5⟩
        · cases h
        · have q3 := z_I_p hS (p := p + 1 + 1) (by omega) h4
          rcases h5 with ⟨a, -, h⟩ | ⟨p2, z2, T2, v2, h5, h6⟩
          · cases h
          · obtain ⟨i1, i2, i3, i4, i5⟩ := g_ci_ok hS m 1 p1 _ _ (z + 1) _ (by omega) (by omega) (by omega) (by omega) h5
            rcases h6 with ⟨h6, h7⟩ | ⟨-, h⟩
            · have q4 := z_M_lt hS (p := p2) (by omega) h6
              have h8 := g_c2_ok hS hp0 (n := z) (p := p2 + 1) (z := z2) (by omega) (by omega) hz (by omega) h7
              obtain ⟨k1, k2, k3, k4, k5, k6⟩ := h8
              have e2 : ∀ j, z * 9 ≤ j → j < z * 9 + 9 → j ≠ z * 9 + 6 → T2 j = t_u (t_u (t_u (t_ad T z 2 (tk p).2.1) (z * 9 + 2) (tk p).2.1) (z * 9 + 3) (tk p).2.2.1) (z * 9 + 0) 5 j := fun j b1 b2 b3 => by
                rw [i5 j (by omega) (by omega), t_u_o (by omega), t_u_o (by omega), t_ix_lo _ _ _ _ _ (by omega) (.inl rfl), t_ad_lo (by omega)]
              obtain ⟨mm, n1, n2⟩ := g_c2_H hS hp0 hH (n := z) (p := p2 + 1) (z := z2) (by omega) (by omega) hz (by omega) (by rw [e2 _ (by omega) (by omega) (by omega), t_u_o (by omega), t_u_o (by omega), t_u_o (by omega), t_ad_z (by omega)]) h7
              subst k5
              exact ht_cl (t1 := p' - (p2 + 1) - 1) (by rw [k6 _ (by omega) (by omega), e2 _ (by omega) (by omega) (by omega), t_u_s rfl]) (by omega) n1 (by omega) n2 (by omega) (by omega)
            · cases h
      · have h8 := g_c2_ok hS hp0 (n := z) (p := p + 1) (z := z + 1) (by omega) (by omega) hz (by omega) h4
        obtain ⟨k1, k2, k3, k4, k5, k6⟩ := h8
        obtain ⟨mm, n1, n2⟩ := g_c2_H hS hp0 hH (n := z) (p := p + 1) (z := z + 1) (by omega) (by omega) hz (by omega) (by rw [t_u_o (by omega), t_u_o (by omega), t_u_o (by omega), t_ad_z (by omega)]) h4
        subst k5
        exact ht_cl (t1 := p' - (p + 1) - 1) (by rw [k6 _ (by omega) (by omega), t_u_s rfl]) (by omega) n1 (by omega) n2 (by omega) (by omega)
    · cases h
      exact ht_lf (.inr (.inl (by rw [t_u_o (by omega), t_u_o (by omega), t_ad_0 rfl]))) (by omega) (by omega)
  · cases h
/-- a chain's node -/
theorem ht_ch {T : Int → Int} {m : Nat} {lo hi v t w t1 t2 w1 z z1 z2 f : Int} (hk : T (v * 9 + 0) = 11 ∨ T (v * 9 + 0) = 12 ∨ T (v * 9 + 0) = 13) (hv : lo ≤ v ∧ v < hi) (hf : T (v * 9 + 5) = f) (hm : 1 ≤ m) (h0 : ht T L z z1 f t1 w1) (hz : lo ≤ z ∧ z1 ≤ v ∧ z1 ≤ z2) (h : htc T (fun a b f => ht T L a b f t2 w1) (fun f => f = 0) v m z2 hi (t_nx T f)) (h1 : t1 + m + 1 ≤ t ∧ t2 + m + 1 ≤ t) (h3 : w1 + 1 ≤ w) : ht T (L + 1) lo hi v t w := by
  have i0 := ht_in h0
  have hc : h_c (T (v * 9 + 0)) (m + 1) = m + 1 := by
    unfold h_c
    rw [if_neg (by omega), if_pos (by omega)]
    omega
  have hk1 : h_k (T (v * 9 + 0)) = 1 := by
    unfold h_k
    rw [if_neg (by omega), if_neg (by omega), if_neg (by omega), if_neg (by omega)]
  refine ⟨hv, by omega, m + 1, .inr (.inr (.inr (.inr (.inr ⟨hk, by omega⟩)))), ?_⟩
  rw [hc, hk1, hf]
  refine ⟨z, z1, ⟨hz.1, by omega, .inr hz.2.1⟩, ht_mono (Nat.le_refl _) (Int.le_refl _) (Int.le_refl _) (by omega) (by omega) h0, htc_mono (fun _ _ _ q => ht_mono (Nat.le_refl _) (Int.le_refl _) (Int.le_refl _) (by omega) (by omega) q) (fun _ q _ => q) hz.2.2 (Int.le_refl _) h⟩
theorem g_pk_H (hS : t_S tk c) (hp0 : g_ok c prev) (hW : 0 ≤ W) (hH : ∀ w, w ≤ 4 → g_H c L W (prev w)) {node : Int} : ∀ (m : Nat) (p z : Int) (T : Int → Int) (last p' z' : Int) (T' : Int → Int) (v : Int), 0 ≤ p → p ≤ c → 1 ≤ last → last < z → node < z → T (last * 9 + 7) = 0 → g_pk tk prev node m p z T last (.inr (p', z', T', v)) → 2 * (m : Int) ≤ p' - p ∧ htc T' (fun a b f => ht T' (L + 1) a b f (p' - p - 2 * m + 1) (W + 15)) (fun f => f = 0) node m z z' (t_nx T' last)
  | 0, p, z, T, last, p', z', T', v, hp, hc, hl, hl2, hn, h7, ⟨_, _, h⟩ => by
    cases h
    exact ⟨by omega, t_nx_z h7 hl⟩
  | m + 1, p, z, T, last, p', z', T', v, hp, hc, hl, hl2, hn, h7, h => by
    rcases h with ⟨h2, h3⟩ | ⟨h2, h3⟩
    · have q1 := z_M_lt hS ⟨hp, hc⟩ h2
      rcases h3 with ⟨a, -, h⟩ | ⟨p1, z1, T1, u, h3, h4⟩
      · cases h
      · obtain ⟨a1, a2, a3, a4, a5, a6, a7, a8, a9⟩ := g_part_ok hS hp0 (p := p + 1) (by omega) (by omega) (by omega) h3
        have hh := g_part_H hS hp0 hW hH (p + 1) z T p1 z1 T1 u (by omega) (by omega) (by omega) h3
        obtain ⟨⟨i1, i2, i3, i4, i5⟩, -⟩ := g_pk_ok hS hp0 m p1 z1 _ u _ (by omega) a2 (by omega) a6 h4
        obtain ⟨j1, j2⟩ := g_pk_H hS hp0 hW hH (node := node) m p1 z1 _ u p' z' T' v (by omega) a2 (by omega) a6 (by omega) (by rw [t_u_o (by omega), t_u_o (by omega)]; exact a8) h4
        refine ⟨by omega, htc_add hh (fun j b1 b2 b3 b4 => ?_) ?_ (by omega) (by omega) (Nat.le_refl _) (by omega) (Int.le_refl _) i3 (htc_mono (fun _ _ _ q => ht_mono (Nat.le_refl _) (Int.le_refl _) (Int.le_refl _) (by omega) (Int.le_refl _) q) (fun _ q => q) (Int.le_refl _) (Int.le_refl _) j2)⟩
        · rw [i5 j b2 b3, t_u_o b4, t_u_o (by omega)]
        · rw [i5 _ (by omega) (by omega), t_u_o (by omega), t_u_s rfl]
    · have q1 := z_M_lt hS ⟨hp, hc⟩ h2
      rcases h3 with ⟨h3, -, h4⟩ | ⟨-, h⟩
      · have q2 := z_lt hS (p := p + 1) (by omega) (by rw [h3]; decide)
        obtain ⟨⟨i1, i2, i3, i4, i5⟩, -⟩ := g_pk_ok hS hp0 m (p + 2) (z + 1) _ z _ (by omega) (by omega) (by omega) (by omega) h4
        obtain ⟨j1, j2⟩ := g_pk_H hS hp0 hW hH (node := node) m (p + 2) (z + 1) _ z p' z' T' v (by omega) (by omega) (by omega) (by omega) (by omega) (by rw [t_u_o (by omega), t_u_o (by omega), t_u_o (by omega), t_ad_z (by omega)]) h4
        have lf : ht (t_ad T z 1 (tk (p + 1)).2.1) (L + 1) z (z + 1) z 1 (W + 15) := ht_lf (.inl (t_ad_0 rfl)) (by omega) (by omega)
        have lf2 : ht T' (L + 1) z (z + 1) z 1 (W + 15) := ht_lf (.inl (by rw [i5 _ (by omega) (by omega), t_u_o (by omega), t_u_o (by omega), t_u_o (by omega), t_ad_0 rfl])) (by omega) (by omega)
        refine ⟨by omega, htc_add (T1 := T') lf2 (fun j b1 b2 b3 b4 => rfl) ?_ (by omega) (by omega) (Nat.le_refl _) (by omega) (Int.le_refl _) i3 (htc_mono (fun _ _ _ q => ht_mono (Nat.le_refl _) (Int.le_refl _) (Int.le_refl _) (by omega) (Int.le_refl _) q) (fun _ q => q) (Int.le_refl _) (Int.le_refl _) j2)⟩
        rw [i5 _ (by omega) (by omega), t_u_o (by omega), t_u_s rfl]
      · cases h
theorem g_prod_H (hS : t_S tk c) (hp0 : g_ok c prev) (hW : 0 ≤ W) (hH : ∀ w, w ≤ 4 → g_H c L W (prev w)) : g_H c (L + 2) (W + 16) (g_prod tk prev) := by
  intro p z T p' z' T' v hp hc hz h
  rcases h with ⟨a, -, h⟩ | ⟨p1, z1, T1, u, h1, h2⟩
  · cases h
  · obtain ⟨a1, a2, a3, a4, a5, a6, a7, a8, a9⟩ := g_part_ok hS hp0 hp hc hz h1
    have hh := g_part_H hS hp0 hW hH p z T p1 z1 T1 u hp hc hz h1
    rcases h2 with ⟨-, -, h⟩ | ⟨h2, m, h3⟩
    · cases h
      exact ht_mono (by omega) (Int.le_refl _) (Int.le_refl _) (Int.le_refl _) (by omega) hh
    · obtain ⟨⟨i1, i2, i3, i4, i5⟩, iv⟩ := g_pk_ok hS hp0 m p1 (z1 + 1) _ u _ (by omega) a2 (by omega) (by omega) h3
      obtain ⟨j1, j2⟩ := g_pk_H hS hp0 hW hH (node := z1) m p1 (z1 + 1) _ u p' z' T' v (by omega) a2 (by omega) (by omega) (by omega) (by rw [t_u_o (by omega), t_ad_lo (by omega)]; exact a8) h3
      have hm : m ≠ 0 := fun q => by
        subst q
        rcases h2 with h2 | h2
        · exact h3.1 h2
        · exact h3.2.1 h2
      obtain rfl := iv _ _ _ _ rfl
      refine ht_ch (L := L + 1) (z := z) (z1 := v) (z2 := v + 1) (f := u) (m := m) (.inr (.inl ?_)) (by omega) ?_ (by omega) (ht_fr (fun j b1 b2 b3 b4 => ?_) hh) (by omega) j2 (by omega) (by omega)
      · rw [i5 _ (by omega) (by omega), t_u_o (by omega), t_ad_0 rfl]
      · rw [i5 _ (by omega) (by omega), t_u_s rfl]
      · rw [i5 j (by omega) b3, t_u_o (by omega), t_ad_lo (by omega)]
theorem g_sk_H (hS : t_S tk c) (hp0 : g_ok c prev) (hW : 0 ≤ W) (hH : ∀ w, w ≤ 4 → g_H c L W (prev w)) {node : Int} : ∀ (m : Nat) (p z : Int) (T : Int → Int) (last p' z' : Int) (T' : Int → Int) (v : Int), 0 ≤ p → p ≤ c → 1 ≤ last → last < z → node < z → T (last * 9 + 7) = 0 → g_sk tk prev node m p z T last (.inr (p', z', T', v)) → 2 * (m : Int) ≤ p' - p ∧ htc T' (fun a b f => ht T' (L + 2) a b f (p' - p - 2 * m + 1) (W + 16)) (fun f => f = 0) node m z z' (t_nx T' last)
  | 0, p, z, T, last, p', z', T', v, hp, hc, hl, hl2, hn, h7, ⟨_, h⟩ => by
    cases h
    exact ⟨by omega, t_nx_z h7 hl⟩
  | m + 1, p, z, T, last, p', z', T', v, hp, hc, hl, hl2, hn, h7, ⟨s, h2, h3⟩ => by
    have q1 := z_pm_p hS ⟨hp, hc⟩ h2
    rcases h3 with ⟨a, -, h⟩ | ⟨p1, z1, T1, u, h3, h4⟩
    · cases h
    · obtain ⟨a1, a2, a3, a4, a5, a6, a7, a8, a9⟩ := g_prod_ok hS hp0 (p := p + 1) (by omega) (by omega) (by omega) h3
      have hh := g_prod_H hS hp0 hW hH (p + 1) z T p1 z1 T1 u (by omega) (by omega) (by omega) h3
      obtain ⟨⟨i1, i2, i3, i4, i5⟩, -⟩ := g_sk_ok hS hp0 m p1 z1 _ u _ (by omega) a2 (by omega) a6 h4
      obtain ⟨j1, j2⟩ := g_sk_H hS hp0 hW hH (node := node) m p1 z1 _ u p' z' T' v (by omega) a2 (by omega) a6 (by omega) (by rw [t_u_o (by omega), t_u_o (by omega)]; exact a8) h4
      refine ⟨by omega, htc_add hh (fun j b1 b2 b3 b4 => ?_) ?_ (by omega) (by omega) (Nat.le_refl _) (by omega) (Int.le_refl _) i3 (htc_mono (fun _ _ _ q => ht_mono (Nat.le_refl _) (Int.le_refl _) (Int.le_refl _) (by omega) (Int.le_refl _) q) (fun _ q => q) (Int.le_refl _) (Int.le_refl _) j2)⟩
      · rw [i5 j b2 b3, t_u_o b4, t_u_o (by omega)]
      · rw [i5 _ (by omega) (by omega), t_u_o (by omega), t_u_s rfl]
theorem g_sum_H (hS : t_S tk c) (hp0 : g_ok c prev) (hW : 0 ≤ W) (hH : ∀ w, w ≤ 4 → g_H c L W (prev w)) : g_H c (L + 3) (W + 17) (g_sum tk prev) := by
  intro p z T p' z' T' v hp hc hz h
  rcases h with ⟨a, -, h⟩ | ⟨p1, z1, T1, u, h1, h2⟩
  · cases h
  · obtain ⟨a1, a2, a3, a4, a5, a6, a7, a8, a9⟩ := g_prod_ok hS hp0 hp hc hz h1
    have hh := g_prod_H hS hp0 hW hH p z T p1 z1 T1 u hp hc hz h1
    rcases h2 with ⟨-, h⟩ | ⟨h2, m, h3⟩
    · cases h
      exact ht_mono (by omega) (Int.le_refl _) (Int.le_refl _) (Int.le_refl _) (by omega) hh
    · obtain ⟨⟨i1, i2, i3, i4, i5⟩, iv⟩ := g_sk_ok hS hp0 m p1 (z1 + 1) _ u _ (by omega) a2 (by omega) (by omega) h3
      obtain ⟨j1, j2⟩ := g_sk_H hS hp0 hW hH (node := z1) m p1 (z1 + 1) _ u p' z' T' v (by omega) a2 (by omega) (by omega) (by omega) (by rw [t_u_o (by omega), t_ad_lo (by omega)]; exact a8) h3
      have hm : m ≠ 0 := fun q => by
        subst q
        exact h2 h3.1
      obtain rfl := iv _ _ _ _ rfl
      refine ht_ch (L := L + 2) (z := z) (z1 := v) (z2 := v + 1) (f := u) (m := m) (.inl ?_) (by omega) ?_ (by omega) (ht_fr (fun j b1 b2 b3 b4 => ?_) hh) (by omega) j2 (by omega) (by omega)
      · rw [i5 _ (by omega) (by omega), t_u_o (by omega), t_ad_0 rfl]
      · rw [i5 _ (by omega) (by omega), t_u_s rfl]
      · rw [i5 j (by omega) b3, t_u_o (by omega), t_ad_lo (by omega)]
end

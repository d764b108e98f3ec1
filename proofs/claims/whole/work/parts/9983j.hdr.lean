/-! THE CLASS READS a function's header for check -/
theorem k_af_pl {pl pl' : Int} {h : Int → Int} {s : k_s} (h1 : s.1 1 ≠ 48) : k_af pl h s = k_af pl' h s := by
  unfold k_af
  rw [if_neg h1, if_neg h1]
theorem k_afs_pl {pl pl' : Int} : ∀ {l : List (Int → Int)} {s : k_s}, s.1 1 + (l.length : Int) ≤ 48 → k_afs pl l s = k_afs pl' l s
  | [], _, _ => rfl
  | x :: l, s, h => by
    rw [List.length_cons] at h
    show k_b (k_af pl x s) (k_afs pl l) = k_b (k_af pl' x s) (k_afs pl' l)
    rw [k_af_pl (pl' := pl') (by omega)]
    rcases hq : k_af pl' x s with u | s1
    · rfl
    · have : s1.1 1 = s.1 1 + 1 := by
        have q := hq
        unfold k_af at q
        split at q
        · cases q
        · cases q
          show t_u s.1 1 (s.1 1 + 1) 1 = _
          exact t_u_s rfl
      show k_afs pl l s1 = k_afs pl' l s1
      exact k_afs_pl (by omega)
theorem k_gv_pl {th : k_h} {pl pl' : Int} {s : k_s} (hl : th.2.2.length ≤ 4) (h1 : s.1 1 + 8 ≤ 48) (h0 : s.1 0 < 24) : k_gv th pl s = k_gv th pl' s := by
  unfold k_gv
  by_cases c1 : th.1 = 1
  · rw [if_pos c1, if_pos c1]
  · rw [if_neg c1, if_neg c1]
    by_cases c3 : th.1 = 3
    · rw [if_pos c3, if_pos c3, k_af_pl (pl' := pl') (by omega)]
    · rw [if_neg c3, if_neg c3]
      have hv : k_nv pl s = k_nv pl' s := by
        unfold k_nv
        rw [if_neg (by omega), if_neg (by omega)]
      rw [hv]
      rcases hq : k_nv pl' s with u | y
      · rfl
      · show (if th.1 = 2 then _ else _) = (if th.1 = 2 then _ else _)
        by_cases c2 : th.1 = 2
        · rw [if_pos c2, if_pos c2]
          have hy : y.1.1 1 = s.1 1 := by
            have q := hq
            unfold k_nv at q
            split at q
            · cases q
            · cases q
              show t_u s.1 0 (s.1 0 + 1) 1 = _
              exact t_u_o (by decide)
          rw [k_afs_pl (pl' := pl') (by have := k_dp_len (h := k_w y.2) (l := th.2.2); omega)]
        · rw [if_neg c2, if_neg c2]
theorem k_rs_len {M : Nat → Int → Int} {E : k_E} {cp t : Int} {th : k_h} (h : k_rs M E cp t = .inr th) (h4 : M 113 t = 2 → (M 117 t).toNat ≤ 4) : th.2.2.length ≤ 4 := by
  unfold k_rs at h
  by_cases c1 : M 113 t = 1 ∨ M 113 t = 3
  · rw [if_pos c1] at h
    obtain ⟨y, _, h2⟩ := k_b_inv h
    cases h2
    exact Nat.zero_le _
  · rw [if_neg c1] at h
    by_cases c2 : M 113 t = 2
    · rw [if_pos c2] at h
      obtain ⟨l, h1, h2⟩ := k_b_inv h
      cases h2
      rw [k_rp_len h1]
      exact h4 c2
    · rw [if_neg c2] at h
      cases h
      exact Nat.zero_le _
theorem k_gv_cn {th : k_h} {pl : Int} {s : k_s} {y : k_v} (hl : th.2.2.length ≤ 4) (h : k_gv th pl s = .inr y) : y.1.1 1 ≤ s.1 1 + 8 ∧ y.1.1 0 ≤ s.1 0 + 1 := by
  unfold k_gv at h
  split at h
  · cases h
    exact ⟨by dsimp only; omega, by dsimp only; omega⟩
  · split at h
    · obtain ⟨s1, h1, h2⟩ := k_b_inv h
      cases h2
      unfold k_af at h1
      split at h1
      · cases h1
      · cases h1
        refine ⟨?_, ?_⟩
        · show t_u s.1 1 (s.1 1 + 1) 1 ≤ _
          rw [t_u_s rfl]
          omega
        · show t_u s.1 1 (s.1 1 + 1) 0 ≤ _
          rw [t_u_o (by decide)]
          omega
    · obtain ⟨u, h1, h2⟩ := k_b_inv h
      have hu : u.1.1 1 = s.1 1 ∧ u.1.1 0 = s.1 0 + 1 := by
        have q := h1
        unfold k_nv at q
        split at q
        · cases q
        · cases q
          exact ⟨show t_u s.1 0 (s.1 0 + 1) 1 = _ from t_u_o (by decide), show t_u s.1 0 (s.1 0 + 1) 0 = _ from t_u_s rfl⟩
      try dsimp only at h2
      split at h2
      · obtain ⟨s1, h3, h4⟩ := k_b_inv h2
        cases h4
        obtain ⟨c1, c2, _⟩ := k_afs_cnt h3
        have := k_dp_len (h := k_w u.2) (l := th.2.2)
        exact ⟨by show s1.1 1 ≤ _; omega, by show s1.1 0 ≤ _; omega⟩
      · cases h2
        exact ⟨by show u.1.1 1 ≤ _; omega, by show u.1.1 0 ≤ _; omega⟩
theorem t_u_t {g : Int → Int} {i a b : Int} : t_u (t_u g i a) i b = t_u g i b := by
  funext k
  by_cases h : k = i
  · rw [t_u_s h, t_u_s h]
  · rw [t_u_o h, t_u_o h, t_u_o h]
theorem t_u_id {g : Int → Int} {i a : Int} (h : g i = a) : t_u g i a = g := by
  funext k
  by_cases h1 : k = i
  · rw [t_u_s h1, h1, h]
  · rw [t_u_o h1]
theorem xS_K {ρ ρ1 : Nat → Option xk} {e e1 : Nat} {R R1 : Nat → Int → Option Nat} {sl sl1 : Nat} {ow ow1 : Nat → Int} (hg : kG ρ e R sl ow ρ1 e1 R1 sl1 ow1) {i : Int} (hi : 0 ≤ i) : ∀ p, wK e 0 0 ow p → ¬ xS ow1 i p := fun p kk q => by
  have h1 := kk.2.2 q.1
  rw [← hg.2.2.2.1 p kk.1] at h1
  have := q.2
  omega
section
variable {ρ : Nat → Option xk} {e sl d : Nat} {M : Nat → Int → Int} {R : Nat → Int → Option Nat} {eX : Nat → Nat × (Nat → Int32)} {Q : xK}
variable {fs f : Nat} {tr : Nat → c_t} {t : Int} {M0 : Nat → Int → Int} {z : Int} {s : k_s} {ow : Nat → Int} {ys : Nat} {N : List (Int × Int)} {Lp : List z_p} {Pp : List ((Int × Int) × z_T)} {xr : z_T}
/-- fewer shapes -/
theorem wS_s8 {G : List c_g} {tn st st1 : Int} (hS : wS fs tr f t s G tn st ρ e M R sl ow) (h : 0 ≤ st1 ∧ st1 ≤ 20) : wS fs tr f t s G tn st1 ρ e (x_up M 8 8 st1) R sl ow ∧ ∀ X lo hi n tn1 st2, wF X ((tr f).1 + 175) lo hi n e tn1 st2 ow M R (x_up M 8 8 st1) R := by
  have hS' := hS
  obtain ⟨⟨a1, a2, a3⟩, ⟨b1, b2, b3, b4, b5⟩, ⟨c1, c2, c3, c4, c5⟩, ⟨d1, d2⟩, ⟨g1, g2, g3⟩, i1, j1, ⟨k1, k2, k3⟩, l1⟩ := hS
  have hf : ∀ X lo hi n tn1 st2, wF X ((tr f).1 + 175) lo hi n e tn1 st2 ow M R (x_up M 8 8 st1) R := fun X lo hi n tn1 st2 => ⟨fun p kk _ _ => x_up_ne (fun q => by have := kk.2.1; omega), fun j _ _ => ⟨by rw [x_up_ne (by decide)], rfl⟩, fun j _ h8 _ _ _ => x_up_o h8, fun j _ => by rw [x_up_ne (by omega)], fun _ _ _ => rfl⟩
  exact ⟨wS_go hS' kG_rf a1 (hf (fun _ => False) 0 0 G.length tn st) (Int.le_refl _) (fun g _ => ⟨fun q => q, fun q => q⟩) (fun p q => q.elim) ⟨by rw [x_up_o (by decide)]; exact b1, x_up_s rfl, by rw [x_up_o (by decide)]; exact b3⟩ (by omega) ⟨gS_fr g1 (fun j _ _ => by rw [x_up_ne (by decide)]) (x_up_ne (by decide)) (x_up_ne (by decide)), g2, by rw [x_up_ne (by decide)]; exact g3⟩ ⟨by rw [x_up_o (by decide)]; exact i1.1, by rw [x_up_o (by decide)]; exact i1.2⟩ j1 (by rw [x_up_ne (by omega)]; exact (l1.1 f k3).2.2), hf⟩
/-- names of a header, as far as they are told -/
def hN (ic : Int) (s : k_s) (G : List c_g) (E : k_E) : Prop := gE G E ∧ eW (s.1 0) E ∧ eI ic E
theorem hN_le {ic : Int} {s s' : k_s} {G : List c_g} {E : k_E} (h : hN ic s G E) (hs : s.1 0 ≤ s'.1 0) : hN ic s' G E := ⟨h.1, fun y hy => ⟨(h.2.1 y hy).1, fun k k0 k1 => (h.2.1 y hy).2 k (by omega) k1⟩, h.2.2⟩
-- the end: what it gives
set_option linter.unusedSimpArgs false in
set_option maxRecDepth 100000 in
set_option maxHeartbeats 4000000 in
theorem w_264d (hE : ∀ j, (eX j).1 ≤ 1000000) (hz : (tr f).2.1 1 = z) (hz5 : z ≤ 500) (hxr : tyC (tr f).2.2 1 z ((tr f).2.1 9) xr) (hxV : tyV M0 (M0 94 f) xr) (hxk : z_Tk xr) {s1 : k_s} {G : List c_g} {E : k_E} {tn ic : Int} (htn : tn ≤ 20) (hG : G.length ≤ 20) {ρ1 : Nat → Option xk} {e1 : Nat} {M1 : Nat → Int → Int} {R1 : Nat → Int → Option Nat} {sl1 : Nat} {ow1 : Nat → Int} (hg : kG ρ e R sl ow ρ1 e1 R1 sl1 ow1) (hS : wS fs tr f t s1 G tn 2 ρ1 e1 M1 R1 sl1 ow1) (hf : wF (fun _ => False) ((tr f).1 + 175) 0 0 0 e 0 0 ow M R M1 R1) (hnm : hN ic s1 G E) (hys : sY ρ1 e1 R1 ow1 0 ys) (hQ1 : ∀ th, k_rs M0 E (-1) (M0 94 f) = .inr th → ∀ ρ2 e2 M2 R2 sl2 ow2, kG ρ e R sl ow ρ2 e2 R2 sl2 ow2 → wS fs tr f t s1 G tn 1 ρ2 e2 M2 R2 sl2 ow2 → wF (fun _ => False) ((tr f).1 + 175) 0 0 0 e 0 0 ow M R M2 R2 → sY ρ2 e2 R2 ow2 0 ys → sH ρ2 e2 M2 R2 ow2 0 ys th → hWv (s1.1 0) th → Q (.inl none) (ρ2, e2, M2, R2, sl2)) (hQ2 : ∀ w a, k_rs M0 E (-1) (M0 94 f) = .inl (w, a) → wX fs tr ((tr f).1 + 175) w a ρ e M R sl ow Q) : xm_J tb_P eX tb_K0 174 (d + 19) 264 Q 185 [(0, .inr (.inr (some 9))), (1, .inr (.inr (some (ys + 1))))] [] (ρ1, e1, M1, R1, sl1) := by
  have hc0 := hS.2.2.1
  have k3 := hS.2.2.2.2.2.2.2.1.2.2
  have k2 := hS.2.2.2.2.2.2.2.1.2.1
  have b8 : M1 8 8 = 2 := hS.2.1.2.1
  obtain ⟨-, ⟨b1, b2, b3, -⟩, -⟩ := id hS
  obtain ⟨w1, w2'⟩ := wS_s8 (st1 := 1) hS (by omega)
  have w2 := w2' (fun _ => False) 0 0 0 0 0
  have hgv := gE_V hnm.1 hnm.2.1
  obtain ⟨u1, u2, u3, u4, u5, u6⟩ := wS_T w1 k3
  obtain ⟨t1, t2, t3⟩ := id u1
  have f9 : x_up M1 8 8 1 ((tr f).1 + 174) 9 = (tr f).2.1 9 := by rw [u3]
  have eqs : c_rs G (-1) xr = k_rs M0 E (-1) (M0 94 f) := c_rs_k hnm.1 (.inl ⟨rfl, by decide⟩) hxV hxk
  have F1 : wF (fun _ => False) ((tr f).1 + 175) 0 0 0 e 0 0 ow M R (x_up M1 8 8 1) R1 := wF_tr hg hf w2 (Int.le_refl _) (Int.le_refl _) (Int.le_refl _) (fun _ _ q => q) (.inl rfl)
  have st8 : x_up M1 8 8 (w32 (M1 8 8 - 1)) = x_up M1 8 8 1 := by
    rw [b8]
    simp (disch := omega) only [w32_id]
    rfl
  refine xm_on hE (fun _ _ => none) (fun _ => false) (fun F C hF hC => ?_)
  (conv => whnf)
  rw [k2]
  (conv => whnf)
  rw [tb_dyn t1]
  (conv => whnf)
  rw [st8]
  refine hC _ _ _ _ _ (xm_castc (w_271 (k := f) (y := ys) (x := xr) (lo := 1) (hi := z) (c := (tr f).2.1 9) (ma := -1) (z := z) (i := 0) hE w1 (fun u hu => (hgv u hu).1) (fun u hu => (hgv u hu).2) k3 hz hz5 (by omega) (Int.le_refl _) (by omega) hys (by omega) (by omega) hxr hxk (fun th hth ρ2 e2 M2 R2 sl2 ow2 hg2 hS2 hf2 hy2 hh2 => ?_) (fun w a hth => wX_tr (X := fun _ => False) hg F1 (fun _ q => q.elim) (by omega) (by omega) (fun _ q => q.elim) (hQ2 w a (by rw [← eqs]; exact hth)))) (by rw [f9]) rfl)
  have hth' : k_rs M0 E (-1) (M0 94 f) = .inr th := by rw [← eqs]; exact hth
  have fin := hQ1 th hth' ρ2 e2 M2 R2 sl2 ow2 (kG_tr hg hg2) hS2 (wF_tr hg F1 hf2 (by omega) (by omega) (by omega) (fun p kk q => absurd q (xS_K hg (by omega) p kk)) (.inl rfl)) hy2 hh2 (k_rs_W hnm.2.1 hth')
  (conv => whnf)
  exact fin
end

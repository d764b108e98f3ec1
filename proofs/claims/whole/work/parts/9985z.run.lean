/-! RUN: what an accepted program gives for a run of f -/
theorem m_op_v {pn : Int → Int} {op n : Int} {S : m_T} {o : Int × m_T} (ho : m_op pn op n S = some o) : -15 ≤ o.1 ∧ o.1 ≤ 1 := by
  have hin := m_op_in ho
  have c : ∀ {v : Int} {U : m_T}, (-15 ≤ v ∧ v ≤ 1) → some (v, U) = some o → -15 ≤ o.1 ∧ o.1 ≤ 1 := fun hv q => by
    injection q with q
    rw [← q]
    exact hv
  have ac : ∀ {ch : Bool} {g i row : Int}, m_a1 ch g i row S = some o → -15 ≤ o.1 ∧ o.1 ≤ 1 := fun {ch g i row} q => by
    unfold m_a1 at q
    split at q
    · split at q
      · split at q
        · split at q
          · exact c (by decide) q
          · cases q
        · exact c (by decide) q
      · cases q
    · split at q
      · exact c (by decide) q
      · cases q
  rcases hin with e | e | e | e | e | e | e | e | e | e | e | e | e | e | e | e | e
  · subst e; rw [m_op_0] at ho; split at ho <;> exact c (by decide) ho
  · subst e; rw [m_op_1] at ho; split at ho
    · exact c (by decide) ho
    · split at ho
      · exact c (by decide) ho
      · cases ho
  · subst e; rw [m_op_2] at ho; split at ho
    · exact c (by decide) ho
    · cases ho
  · subst e; rw [m_op_3] at ho; split at ho
    · exact c (by decide) ho
    · cases ho
  · rw [m_op_4 e] at ho; unfold m_ar at ho; split at ho
    · split at ho <;> exact c (by decide) ho
    · cases ho
  · subst e; rw [m_op_7] at ho; split at ho
    · exact c (by decide) ho
    · cases ho
  · subst e; rw [m_op_8] at ho; split at ho
    · exact c (by decide) ho
    · cases ho
  · subst e; rw [m_op_9] at ho; split at ho
    · split at ho
      · exact c (by decide) ho
      · split at ho <;> exact c (by decide) ho
    · cases ho
  · subst e; rw [m_op_10] at ho; split at ho
    · exact ac ho
    · cases ho
  · subst e; rw [m_op_11] at ho; split at ho
    · exact ac ho
    · cases ho
  · subst e; rw [m_op_12] at ho; split at ho
    · exact ac ho
    · cases ho
  · subst e; rw [m_op_13] at ho; split at ho
    · exact ac ho
    · cases ho
  · subst e; rw [m_op_14] at ho; split at ho
    · exact c (by decide) ho
    · cases ho
  · subst e; rw [m_op_15] at ho; split at ho
    · exact c (by decide) ho
    · split at ho
      · exact c (by decide) ho
      · cases ho
  · subst e; rw [m_op_16] at ho; exact c (by decide) ho
  · subst e; rw [m_op_22] at ho; exact c (by split <;> decide) ho
  · obtain ⟨r, rfl⟩ : ∃ r, op = 17 + r := ⟨op - 17, by omega⟩
    rw [m_op_17 (by omega)] at ho; split at ho
    · exact c (by decide) ho
    · cases ho
theorem m_E_v {cd : Int → Int → Option (Int × Int)} {pn : Int → Int} : ∀ (k : Nat) (S : m_T), -15 ≤ (m_E cd pn k S).1 ∧ (m_E cd pn k S).1 ≤ 1
  | 0, _ => ⟨by show (-15 : Int) ≤ -10; decide, by show (-10 : Int) ≤ 1; decide⟩
  | k + 1, S => by
    unfold m_E
    split
    · exact ⟨by show (-15 : Int) ≤ 0; decide, by show (0 : Int) ≤ 1; decide⟩
    · rename_i o h
      obtain ⟨op, n, -, -, ho⟩ := m_st_inv h
      split
      · exact m_E_v k o.2
      · exact m_op_v ho
section
variable {ρ : Nat → Option xk} {e sl : Nat} {M : Nat → Int → Int} {R : Nat → Int → Option Nat} {f how : Int}
/-- what a run needs: where the tree is, fit's words, codes, and that it goes well -/
def rnD (ρ : Nat → Option xk) (M : Nat → Int → Int) (R : Nat → Int → Option Nat) (f how : Int) (q : Nat) (nu : Int → Int) (L : List z_p) (P : List ((Int × Int) × z_T)) (N : List (Int × Int)) (cd : Int → Int → Option (Int × Int)) (pn : Int → Int) : Prop := R 7 f = some (q + 175) ∧ (fitP (M 43) (M 44) nu L P ↔ fitP (M 161) (M 162) nu L P)
    ∧ (sB M f ∧ M 90 f = L.length ∧ (0 ≤ M 89 f ∧ M 89 f + L.length ≤ 1600) ∧ pB M f 0 nu (M 89 f) L ∧ M 93 f = P.length ∧ tBd M f nu (5 * f) P)
    ∧ (tN ρ M R q (M (q + 174) 1) (M (q + 175)) N P ∧ psC (M (q + 175)) 1 (M (q + 174) 1) (M (q + 174) 6) L ∧ pC M N P 0 0 nu L ∧ ∀ y ∈ P, tC M N P nu y.2)
    ∧ (M 40 f = M 93 f ∧ (0 ≤ M 93 f ∧ M 93 f ≤ 5) ∧ M 41 f = (if M 113 (M 94 f) = 3 then 1 else 0) ∧ 0 ≤ M 94 f ∧ M 94 f < 1280)
    ∧ (rCd cd how M ∧ cCd cd how ρ M R ∧ ∀ g x n, cd g x = some (15, n) → M 40 n = pn n ∧ M 93 n = pn n)
    ∧ (fitP (M 161) (M 162) nu L P → ∀ (p fn nx lo ce pr C : Int → Int) (k : Nat) (tk : Int), bg (M 161) (M 162) C ce lo (M 93 f).toNat → tk = bP (M 161) (M 162) (M 93 f).toNat → fn 0 = f → nx 0 = 0 → m_G cd pn (zE (M 113 (M 94 f) = 3)) k (sT p fn nx lo ce pr tk (M 93 f)))
theorem rn_data (h : iv (ρ, e, M, R, sl)) (hP : oP (ρ, e, M, R, sl)) (h11 : M 0 11 = 1) (h14 : M 8 14 = 1) (hf : 0 ≤ f ∧ f < M 0 9) (hw : how = 0 ∨ how = 1) : ∃ q nu L P N cd pn, rnD ρ M R f how q nu L P N cd pn := by
  obtain ⟨⟨hfn, -⟩, hA, hNa⟩ := hP
  dsimp only at hA hNa
  obtain ⟨-, hs, -, h4, -, -, h7, -⟩ := h
  dsimp only at hs h4 h7
  obtain ⟨-, -, h90, h98⟩ := h4
  obtain ⟨M0, fs, nf, s, q1, q2, q3, q4, q5⟩ := hA h11 h14
  have h8 : fs ≤ 8 := by omega
  have hN : ∀ g : Int, 0 ≤ g → g < fs → dNf M0 g := fun g g0 g1 => (dNf_y (dY_sy q2) g0 g1 (hNa g g0 (by omega))).2.2
  obtain ⟨ok, op⟩ := run_fn (how := how) h8 hfn q1 q2 hN q3 q4
  have fF := run_fF q3 ok
  have cds : ∀ f : Int, 0 ≤ f → f < fs → (M 156 f = (lAc M0 fs s.2.2.2 f).length ∧ (lAc M0 fs s.2.2.2 f).length ≤ 500) ∧ mL M (1200 * f) 0 (lAc M0 fs s.2.2.2 f) := fun f f0 f1 => ⟨(q5 f f0 f1).1, (q5 f f0 f1).2.1⟩
  have hrc := run_rcd hw h8 cds (fun g g0 g1 => (op g g0 g1).1)
  have hcc := run_ccd hw h8 q1 h11 h14 h7 cds (fun g g0 g1 => (op g g0 g1).1)
  obtain ⟨q, r1, r2, r3⟩ := hfn.2.2 f hf.1 (by omega) hf.2
  dsimp only at r1 r2 r3
  have cT : c_T ρ R q := by
    rcases hfn.1 f hf.1 (by omega) with z | ⟨q', z1, z2, -⟩
    · dsimp only at z; rw [r1] at z; cases z
    · dsimp only at z1 z2
      rw [r1] at z1
      injection z1 with z1
      have : q' = q := by omega
      subst this
      exact z2
  have hR0 : fR f (mf f M0) (M (q + 175)) (fun j => M (q + 174) j) (M (q + 174) 1) := fR_mf ⟨hf.1, by omega⟩ r3 (dY_sy q2)
  obtain ⟨sg, y, x, D, t, w, n, m, L', ⟨f1, -, -⟩, -, -, -, f5, -⟩ := ok f hf.1 (by omega)
  obtain ⟨nu, L, P, N, ⟨-, nB⟩, e1, e2, e3, e4⟩ := fit_ok (n := fs) cT r2.2 hR0 q2 ⟨hf.1, by omega⟩ (by omega) (hN f hf.1 (by omega)) f1 hs
  obtain ⟨⟨y1, y2, y3⟩, -, -, -, -, y8, -⟩ := id q2
  have e93 : ∀ g : Int, 0 ≤ g → g < fs → M 93 g = M0 93 g := fun g g0 g1 => y1 93 g (by decide) (by decide) (by decide) (by decide) (by decide) (by omega)
  have e94 := y1 94 f (by decide) (by decide) (by decide) (by decide) (by decide) (by omega)
  have t94 : 0 ≤ M0 94 f ∧ M0 94 f < 160 * (f + 1) := by
    obtain ⟨_, _, _, _, -, -, -, -, ⟨-, z, -⟩, -⟩ := hR0
    have z1 := z.1
    rw [mf_c.2.2.2.2.1, mf_ne (by decide)] at z1
    exact z1
  have e113 : M 113 (M 94 f) = M0 113 (M0 94 f) := by rw [e94, y8 113 _ (by decide) (by decide) (by omega)]
  have d5 := q5 f hf.1 (by omega)
  have m93 := e93 f hf.1 (by omega)
  refine ⟨q, nu, L, P, N, aCd M0 fs s.2.2.2 how, M0 93, r1, e2.trans e1.symm, e3, e4, ⟨by rw [d5.2.2.1, m93], by rw [m93]; exact f5, by rw [d5.2.2.2, e113], by rw [e94]; omega⟩, ⟨hrc, hcc, fun g x n hc => ?_⟩, fun hfit p fn nx lo ce pr C k tk hb ht hfn0 hnx => ?_⟩
  · obtain ⟨n0, n1⟩ := aCd_15 fF hc
    exact ⟨(q5 n n0 n1).2.2.1, e93 n n0 n1⟩
  · rw [e113]
    exact run_good (how := how) (fs := fs) (by omega) ok ⟨hf.1, by omega⟩ (e1.mp hfit) nB (iv_AB hs) m93 (by rw [m93]; exact f5) hb ht hfn0 hnx k
theorem rn_g {kd : xk} {z : Int} : iv_g ρ e M R (x_new ρ e kd) (e + 1) (x_up (x_zM M (e + 174)) 81 0 z) (x_zR R (e + 174)) := by
  refine ⟨fun i hi => ?_, Nat.le_succ _, fun x j hx => ?_, ⟨?_, gK_r ?_ ?_ ?_ (fun x j hx => ?_)⟩, fun x i hx => ?_⟩
  · unfold x_new
    rw [if_neg (by omega)]
  · simp (disch := omega) only [x_up_p, x_zM_p]
  · simp (disch := omega) only [x_up_p, x_zM_p, Int.le_refl]
  · simp (disch := omega) only [x_up_p, x_zM_p]
  · simp (disch := omega) only [x_up_p, x_zM_p]
  · simp (disch := omega) only [x_up_p, x_zM_p]
  · simp (disch := omega) only [x_up_p, x_zM_p]
  · simp (disch := omega) only [x_zR_p]
theorem rn_g2 {y z : Int} : iv_g ρ e M R ρ e (x_up (x_up M 173 0 y) 81 0 z) R := by
  refine ⟨fun i hi => rfl, Nat.le_refl _, fun x j hx => ?_, ⟨?_, gK_r ?_ ?_ ?_ (fun x j hx => ?_)⟩, fun x i hx => rfl⟩
  all_goals simp (disch := omega) only [x_up_p, Int.le_refl]
end
/-- the reference's run: it answers a and leaves the fault v; all holds that must hold between calls -/
def rV2 (eX : Nat → Nat × (Nat → Int32)) (t v f how gr : Int) (s2 : xs) : Prop := ∀ d, xm_call tb_P eX tb_K0 174 (d + 20) 137 [.inr (.inr (some 82)), .inl f, .inl how, .inl gr] s2 (fun oo s' => ∃ a, oo = .inl (some (.inl a)) ∧ s'.2.2.1 81 0 = v ∧ (v = 0 → s'.2.2.1 173 0 = a ∧ -2147483648 ≤ a ∧ a ≤ 2147483647) ∧ iv s' ∧ oP s' ∧ rm t s')
section
variable {ρ : Nat → Option xk} {e sl d : Nat} {M : Nat → Int → Int} {R : Nat → Int → Option Nat} {eX : Nat → Nat × (Nat → Int32)} {Q : xK}
variable {f how gr t : Int}
theorem rn_class (hE : ∀ j, (eX j).1 ≤ 1000000) (ht : 0 ≤ t) (hi : (-2147483648 ≤ f ∧ f ≤ 2147483647) ∧ (-2147483648 ≤ how ∧ how ≤ 2147483647) ∧ -2147483648 ≤ gr ∧ gr ≤ 2147483647) (h : iv (ρ, e, M, R, sl)) (hP : oP (ρ, e, M, R, sl)) (hr : rm (t + 1) (ρ, e, M, R, sl)) : xm_call tb_P eX tb_K0 174 (d + 20) 10 [.inr (.inr (some 1)), .inl f, .inl how, .inl gr, .inr (.inr (some 174))] (ρ, e, M, R, sl) (fun oo s2 => ∃ v, (v = 0 ∨ v = 1 ∨ v = 2) ∧ oo = .inl (some (.inl v)) ∧ rV2 eX t v f how gr s2) := by
  have hroom := rm_in hr ht
  have hp : iv_p M := h.2.2.2.1
  have hc : iv_c M := h.2.2.2.2.1
  obtain ⟨-, p9, p90, p98⟩ := id hp
  obtain ⟨c1, c2, c3⟩ := id hc
  have p9 : M 0 9 = M 81 10 := p9
  have c2 : M 0 11 = 0 → M 81 67 = 0 := fun z => (c2 z).2.2.2.2.2
  have c3 : M 0 11 = 1 → M 8 14 = M 81 67 ∧ (M 8 14 = 0 ∨ M 8 14 = 1) := fun z => ⟨(c3 z).2.2.2.2.2.1, (c3 z).2.2.2.2.2.2.2.1⟩
  by_cases bad : how < 0 ∨ 1 < how ∨ gr < 1 ∨ 20000 < gr
  · refine c_10x (d := d + 11) hE bad hroom ⟨1, .inr (.inl rfl), rfl, fun d => ?_⟩
    exact c_137x (d := d + 11) hE bad hi.2 ⟨0, rfl, by dsimp only; exact x_up_s rfl, fun z => by omega, iv_up (iv_new h) (.inr ⟨rfl, rfl⟩), oP_g _ _ _ _ sl _ _ _ _ _ hP rn_g, rm_thr hr⟩
  · have gd : (0 ≤ how ∧ how ≤ 1) ∧ 1 ≤ gr ∧ gr ≤ 20000 := by omega
    have a67 : M 81 67 = 0 ∨ M 81 67 = 1 := by
      rcases c1 with z | z
      · exact .inl (c2 z)
      · have := c3 z; omega
    by_cases no : M 0 11 = 0 ∨ (M 0 11 = 1 ∧ M 8 14 = 0) ∨ f < 0 ∨ M 0 9 ≤ f
    · refine c_10y (d := d + 11) hE gd c1 (fun z => (c3 z).2) no hroom ⟨2, .inr (.inr rfl), rfl, fun d => ?_⟩
      have z81 : ∀ j, x_zM M (e + 174) 81 j = M 81 j := fun j => x_zM_p (by omega)
      refine c_137y (d := d + 11) hE gd (by rw [z81]; exact a67) (by rw [z81]; omega) hi.1 (by
        rw [z81, z81]
        rcases no with z | ⟨z1, z2⟩ | z | z
        · exact .inl (c2 z)
        · have := c3 z1; exact .inl (by omega)
        · exact .inr (.inl z)
        · exact .inr (.inr (by omega))) ⟨0, rfl, by dsimp only; exact x_up_s rfl, fun z => by omega, iv_up (iv_new h) (.inr ⟨rfl, rfl⟩), oP_g _ _ _ _ sl _ _ _ _ _ hP rn_g, rm_thr hr⟩
    · have h11 : M 0 11 = 1 := by omega
      have h14 : M 8 14 = 1 := by have := c3 h11; omega
      have hf : 0 ≤ f ∧ f < M 0 9 := by omega
      have f8 : 0 ≤ f ∧ f < 8 := by omega
      have h67 : M 81 67 = 1 := by have := c3 h11; omega
      obtain ⟨q, nu, L, P, N, cd, pn, d1, d2, ⟨s1, s2, s3, s4, s5, s6⟩, ⟨t1, t2, t3, t4⟩, ⟨n1, n2, n3, n4⟩, ⟨k1, k2, k3⟩, good⟩ := rn_data h hP h11 h14 hf (show how = 0 ∨ how = 1 by omega)
      have hs : iv_s M := h.2.1
      have ab := iv_AB2 hs
      refine c_10 (d := d + 8) (nu := nu) (L := L) (P := P) (N := N) hE gd h11 h14 hf p98 d1 t1 (fun k k0 k6 => by rw [(ab k k0 k6).1]; exact (iv_AB hs k k0 k6).1) t2 t3 t4 (fun nofit => ?_) (fun fit Q' hQ' => ?_)
      · -- it does not fit
        refine ⟨0, .inl rfl, rfl, fun d => ?_⟩
        have fc : fCt M (x_up M 173 0 (-9)) := fun x hx => x_up_ne (by omega)
        have e0 : ∀ x : Nat, x ≠ 173 → x_up M 173 0 (-9) x = M x := fun x hx => x_up_ne hx
        refine c_137 (d := d + 11) (nu := nu) (L := L) (P := P) hE gd (by rw [e0 81 (by decide)]; exact h67) (by rw [e0 81 (by decide)]; omega) (by rw [e0 81 (by decide)]; omega) (sB_c fc s1) (by rw [e0 90 (by decide)]; exact s2) (by rw [e0 89 (by decide)]; exact s3) (by rw [e0 89 (by decide)]; exact pB_c fc s4) (by rw [e0 93 (by decide)]; exact s5) (tBd_c fc s6) (fun _ => ?_) (fun z => ?_)
        · exact ⟨-9, rfl, by dsimp only; exact x_up_s rfl, fun _ => ⟨by show x_up (x_up M 173 0 (-9)) 81 0 0 173 0 = -9; rw [x_up_p (by decide), x_up_s rfl], by decide, by decide⟩, iv_up (iv_up h (.inl rfl)) (.inr ⟨rfl, rfl⟩), oP_g _ _ _ _ sl _ _ _ _ _ hP rn_g2, rm_les hr⟩
        · rw [e0 161 (by decide), e0 162 (by decide)] at z
          exact absurd (d2.mpr z) nofit
      · -- it fits
        have fitR := d2.mp fit
        have gd2 := good fitR
        refine k_331 (d := d + 9) (n := M 93 f) (cd := cd) (pn := pn) (row := M 113 (M 94 f) = 3) hE gd.2 f8 n1 n2 (iv_AB' hs) (iv_C' hs) (by rw [n3]; split; exact .inr rfl; exact .inl rfl) (fun z => by
          by_cases w : M 113 (M 94 f) = 3
          · exact w
          · rw [n3, if_neg w] at z; omega) k2 (fun g x m hm => (k3 g x m hm).1) (fun M1 b1 b2 => ?_) (fun M1 M2 M3 V E eV a1 a2 a3 a4 a5 a6 a7 => ?_)
        · exact gd2 _ _ _ _ _ _ (M 45) _ _ (bg_c ab (by omega) (sV_bg (by omega) b1)) (by rw [b2]; exact bP_c ab _ (by omega)) rfl rfl
        · have Ein := m_E_v (cd := cd) (pn := pn) gr.toNat V
          rw [← a2] at Ein
          refine hQ' E M3 _ (by omega) ⟨0, .inl rfl, rfl, fun d => ?_⟩
          have rc : rnC M M3 f how (M 93 f) E (m_E cd pn gr.toNat V).2 := ⟨M1, M2, a1, a3, a4, a5, a6, a7⟩
          have cf := rnC_fr rc
          have e0 : ∀ x : Nat, x ≠ 173 → x ≠ 45 → (x < 47 ∨ 54 < x) → x_up M3 173 0 E x = M x := fun x x1 x2 x3 => by rw [x_up_ne x1, cf x x2 x3]
          have fc : fCt M (x_up M3 173 0 E) := fun x hx => e0 x (by omega) (by omega) (by omega)
          have e1 : ∀ x : Nat, x ≠ 173 → x ≠ 45 → (x < 47 ∨ 54 < x) → x ≠ 81 → x_up (x_up M3 173 0 E) 81 0 0 x = M x := fun x x1 x2 x3 x4 => by rw [x_up_ne x4, e0 x x1 x2 x3]
          obtain ⟨N0, hN0⟩ : ∃ N0, N0 = x_up (x_up M3 173 0 E) 81 0 0 := ⟨_, rfl⟩
          rw [← hN0] at e1
          refine c_137 (d := d + 11) (nu := nu) (L := L) (P := P) hE gd (by rw [e0 81 (by decide) (by decide) (by omega)]; exact h67) (by rw [e0 81 (by decide) (by decide) (by omega)]; omega) (by rw [e0 81 (by decide) (by decide) (by omega)]; omega) (sB_c fc s1) (by rw [e0 90 (by decide) (by decide) (by omega)]; exact s2) (by rw [e0 89 (by decide) (by decide) (by omega)]; exact s3) (by rw [e0 89 (by decide) (by decide) (by omega)]; exact pB_c fc s4) (by rw [e0 93 (by decide) (by decide) (by omega)]; exact s5) (tBd_c fc s6) (fun z => ?_) (fun _ => ?_)
          · rw [e0 161 (by decide) (by decide) (by omega), e0 162 (by decide) (by decide) (by omega)] at z
            exact absurd fitR z
          · rw [← hN0]
            have x161 := e1 161 (by decide) (by decide) (by omega) (by decide)
            have x162 := e1 162 (by decide) (by decide) (by omega) (by decide)
            have x163 := e1 163 (by decide) (by decide) (by omega) (by decide)
            have x93 := e1 93 (by decide) (by decide) (by omega) (by decide)
            have x94 := e1 94 (by decide) (by decide) (by omega) (by decide)
            have x113 := e1 113 (by decide) (by decide) (by omega) (by decide)
            refine q_137b (d := d + 13) (n := M 93 f) (cd := cd) (pn := pn) hE gd.2 f8 (by rw [x93]) n2 (by rw [x161, x162]; exact iv_AB hs) (by rw [x161, x162, x163]; exact fun i hi r k k0 k1 => (iv_C hs i hi r k k0 k1).2) (by rw [x94]; exact n4) (rCd_go k1 (fun x x1 x2 => e1 x (by omega) (by omega) (by omega) (by omega))) (fun g x m hm => by rw [x93]; exact (k3 g x m hm).2) (fun N1 b1 b2 b3 b4 => ?_) (fun N1 N2 N3 S E' eS r1 r2 r3 r4 r5 r6 r7 => ?_)
            · rw [x161, x162, x163] at b1
              rw [x161, x162] at b2
              rw [x113, x94]
              exact gd2 _ _ _ _ _ _ (M 163) _ _ b1 b2 b3 b4
            · -- both ends are alike
              obtain ⟨g1, g2, g3, g4⟩ := id a1
              rw [bK_o (by decide) (by decide) (by decide), bK_o (by decide) (by decide) (by decide), x_up_ne (by decide), x_up_ne (by decide)] at g3 g4
              rw [bK_o (by decide) (by decide) (by decide), x_up_ne (by decide)] at g4
              obtain ⟨i1, i2, i3, i4, i5⟩ := id r1
              rw [bM_o (by decide) (by decide) (by decide), bM_o (by decide) (by decide) (by decide), x161, x162] at i3 i5
              rw [bM_o (by decide) (by decide) (by decide), x163] at i5
              have j0 : N1 167 0 = f := by rw [i1 167 (by decide) (by decide) (by decide) (by decide)]; exact bM_1.1
              have j1 : N1 168 0 = 0 := by rw [i1 168 (by decide) (by decide) (by decide) (by decide)]; exact bM_1.2
              have al : bS S V := by rw [eS, eV]; exact al_bS hs n2 g4 g3 i5 i3 j0 j1
              have pin := bP_in (iv_AB hs) (M 93 f).toNat (by omega)
              obtain ⟨u1, u2⟩ := bg_num (iv_AB hs) (by omega) i5 (fun i hi r k k0 k1 => (iv_C hs i hi r k k0 k1).2)
              have hB : m_B S := by
                rw [eS]
                exact sT_mB (fun j j0 j1 => by
                  obtain ⟨jj, rfl⟩ : ∃ jj : Nat, j = jj := ⟨j.toNat, by omega⟩
                  exact u2 jj (by omega)) (fun j j0 j1 => u1 j j0 (by omega)) (by omega) (by omega)
              have hG : m_G cd pn (zE (M 113 (M 94 f) = 3)) gr.toNat S := by
                rw [eS]
                exact gd2 _ _ _ _ _ _ (M 163) _ _ i5 i3 j0 j1
              have s67 : S 6 7 = 0 := by rw [eS]; rfl
              have s62 : S 6 2 = N1 81 126 := by rw [eS]; rfl
              obtain ⟨w1, w2, w3, w4, w5⟩ := m_E_b (cd := cd) (pn := pn) (Z := zE (M 113 (M 94 f) = 3)) gr.toNat S V al hB (by rw [s67]; omega) (fun g x op m hm => (k1 g x op m hm).2.2.2.2.2.2) hG
              have w6 := m_E_62 (cd := cd) (pn := pn) gr.toNat S
              have eE : E' = E := by rw [r2, a2, w1]
              rw [eE] at r2 r5 r7 ⊢
              have rr : rnR N0 N3 f (M 93 f) E (m_E cd pn gr.toNat S).2 := ⟨N1, N2, r1, r3, r4, r5, r6, r7⟩
              have re : rnE M f (M 93 f) E (m_E cd pn gr.toNat S).2 (m_E cd pn gr.toNat V).2 := ⟨w2, w3, fun z => w4 (by rw [← r2]; exact z), by rw [← i3, ← s62]; exact w6⟩
              obtain ⟨-, -, v0, v1, -⟩ := rn_fr rc hN0 rr
              exact ⟨E, rfl, v0, fun _ => ⟨v1, by omega, by omega⟩, rn_iv h n2 n3 rc hN0 rr re, rn_oP hP rc hN0 rr, rn_rm hr⟩
set_option linter.unusedSimpArgs false in
set_option maxRecDepth 100000 in
set_option maxHeartbeats 4000000 in
theorem la_run (hE : ∀ j, (eX j).1 ≤ 1000000) {i : Int} (h0 : 0 ≤ i) (h6 : i + 6 ≤ ((eX 0).1 : Int)) (ht : 0 ≤ t) (ha : ((eX 0).2 (i + 1).toNat).toInt = f) (hb : ((eX 0).2 (i + 2).toNat).toInt = how) (hg : ((eX 0).2 (i + 3).toNat).toInt = gr) (h : iv (ρ, e, M, R, sl)) (hP : oP (ρ, e, M, R, sl)) (hr : rm (t + 1) (ρ, e, M, R, sl)) (hK : ∀ ρ' e' M' R' sl', iv (ρ', e', M', R', sl') → oP (ρ', e', M', R', sl') → rm t (ρ', e', M', R', sl') → xm_J tb_P eX tb_K0 174 (d + 20) 0 Q 1194 [(0, .inr (.inr (some 0))), (1, .inr (.inr (some 1))), (2, .inr (.inr (some 82))), (3, .inr (.inr (some 174))), (4, .inl i)] [] (ρ', e', M', R', sl')) : xm_J tb_P eX tb_K0 174 (d + 20) 0 Q 801 [(0, .inr (.inr (some 0))), (1, .inr (.inr (some 1))), (2, .inr (.inr (some 82))), (3, .inr (.inr (some 174))), (4, .inl i)] [] (ρ, e, M, R, sl) := by
  have hE0 := hE 0
  have bf : -2147483648 ≤ f ∧ f ≤ 2147483647 := by rw [← ha]; exact ⟨by have := ((eX 0).2 (i + 1).toNat).le_toInt; omega, by have := ((eX 0).2 (i + 1).toNat).toInt_lt; omega⟩
  have bh : -2147483648 ≤ how ∧ how ≤ 2147483647 := by rw [← hb]; exact ⟨by have := ((eX 0).2 (i + 2).toNat).le_toInt; omega, by have := ((eX 0).2 (i + 2).toNat).toInt_lt; omega⟩
  have bg : -2147483648 ≤ gr ∧ gr ≤ 2147483647 := by rw [← hg]; exact ⟨by have := ((eX 0).2 (i + 3).toNat).le_toInt; omega, by have := ((eX 0).2 (i + 3).toNat).toInt_lt; omega⟩
  have dc : xm_call tb_P eX tb_K0 174 (d + 20) 10 [.inr (.inr (some 1)), .inl f, .inl how, .inl gr, .inr (.inr (some 174))] (ρ, e, M, R, sl) (fun oo s2 => ∃ v, (v = 0 ∨ v = 1 ∨ v = 2) ∧ oo = .inl (some (.inl v)) ∧ rV2 eX t v f how gr s2) := rn_class (d := d) hE ht ⟨bf, bh, bg⟩ h hP hr
  refine xm_on hE (fun k pc => if Nat.beq k 0 && Nat.beq pc 1194 then some [0, 1, 2, 3, 4] else none) (fun k => Nat.beq k 15) (fun F C hF hC => ?_)
  (conv => whnf)
  repeat (first | (refine br_t (by first | omega | (simp (disch := omega) only [w32_id, w64_id, x_up_p, x_up_s, x_up_o, x_fill_p, x_fill_i, x_fill_o, x_cpy_p, x_cpy_i, x_cpy_o, x_upR_p, x_upR_s, x_upR_o, x_zM_p, x_zR_p, x_set_p, x_set_s, tb_CM, tb_SM, xm_cats, xm_cat, List.length_cons, List.length_nil, x_cmp_ge, x_cmp_le, x_cmp_gt, x_cmp_lt, x_cmp_eq, not_true_eq_false, not_false_eq_true, true_and, and_true, Int.add_zero, Int.zero_add, Int.cast_ofNat_Int, Int.sub_zero, ha, hb, hg] <;> omega) | (simp (disch := omega) only [w32_id, w64_id, x_up_p, x_up_s, x_up_o, x_fill_p, x_fill_i, x_fill_o, x_cpy_p, x_cpy_i, x_cpy_o, x_upR_p, x_upR_s, x_upR_o, x_zM_p, x_zR_p, x_set_p, x_set_s, tb_CM, tb_SM, xm_cats, xm_cat, List.length_cons, List.length_nil, x_cmp_ge, x_cmp_le, x_cmp_gt, x_cmp_lt, x_cmp_eq, not_true_eq_false, not_false_eq_true, true_and, and_true, Int.add_zero, Int.zero_add, Int.cast_ofNat_Int, Int.sub_zero, ha, hb, hg]; done) | fail) ?_; (conv => whnf)) | (refine br_f (by first | omega | (simp (disch := omega) only [w32_id, w64_id, x_up_p, x_up_s, x_up_o, x_fill_p, x_fill_i, x_fill_o, x_cpy_p, x_cpy_i, x_cpy_o, x_upR_p, x_upR_s, x_upR_o, x_zM_p, x_zR_p, x_set_p, x_set_s, tb_CM, tb_SM, xm_cats, xm_cat, List.length_cons, List.length_nil, x_cmp_ge, x_cmp_le, x_cmp_gt, x_cmp_lt, x_cmp_eq, not_true_eq_false, not_false_eq_true, true_and, and_true, Int.add_zero, Int.zero_add, Int.cast_ofNat_Int, Int.sub_zero, ha, hb, hg] <;> omega) | (simp (disch := omega) only [w32_id, w64_id, x_up_p, x_up_s, x_up_o, x_fill_p, x_fill_i, x_fill_o, x_cpy_p, x_cpy_i, x_cpy_o, x_upR_p, x_upR_s, x_upR_o, x_zM_p, x_zR_p, x_set_p, x_set_s, tb_CM, tb_SM, xm_cats, xm_cat, List.length_cons, List.length_nil, x_cmp_ge, x_cmp_le, x_cmp_gt, x_cmp_lt, x_cmp_eq, not_true_eq_false, not_false_eq_true, true_and, and_true, Int.add_zero, Int.zero_add, Int.cast_ofNat_Int, Int.sub_zero, ha, hb, hg]; done) | fail) ?_; (conv => whnf)) | (refine sw_in (by first | omega | (simp (disch := omega) only [w32_id, w64_id, x_up_p, x_up_s, x_up_o, x_fill_p, x_fill_i, x_fill_o, x_cpy_p, x_cpy_i, x_cpy_o, x_upR_p, x_upR_s, x_upR_o, x_zM_p, x_zR_p, x_set_p, x_set_s, tb_CM, tb_SM, xm_cats, xm_cat, List.length_cons, List.length_nil, x_cmp_ge, x_cmp_le, x_cmp_gt, x_cmp_lt, x_cmp_eq, not_true_eq_false, not_false_eq_true, true_and, and_true, Int.add_zero, Int.zero_add, Int.cast_ofNat_Int, Int.sub_zero, ha, hb, hg] <;> omega) | (simp (disch := omega) only [w32_id, w64_id, x_up_p, x_up_s, x_up_o, x_fill_p, x_fill_i, x_fill_o, x_cpy_p, x_cpy_i, x_cpy_o, x_upR_p, x_upR_s, x_upR_o, x_zM_p, x_zR_p, x_set_p, x_set_s, tb_CM, tb_SM, xm_cats, xm_cat, List.length_cons, List.length_nil, x_cmp_ge, x_cmp_le, x_cmp_gt, x_cmp_lt, x_cmp_eq, not_true_eq_false, not_false_eq_true, true_and, and_true, Int.add_zero, Int.zero_add, Int.cast_ofNat_Int, Int.sub_zero, ha, hb, hg]; done) | fail) ?_; (conv => whnf)) | (refine sw_hit (by first | omega | (simp (disch := omega) only [w32_id, w64_id, x_up_p, x_up_s, x_up_o, x_fill_p, x_fill_i, x_fill_o, x_cpy_p, x_cpy_i, x_cpy_o, x_upR_p, x_upR_s, x_upR_o, x_zM_p, x_zR_p, x_set_p, x_set_s, tb_CM, tb_SM, xm_cats, xm_cat, List.length_cons, List.length_nil, x_cmp_ge, x_cmp_le, x_cmp_gt, x_cmp_lt, x_cmp_eq, not_true_eq_false, not_false_eq_true, true_and, and_true, Int.add_zero, Int.zero_add, Int.cast_ofNat_Int, Int.sub_zero, ha, hb, hg] <;> omega) | (simp (disch := omega) only [w32_id, w64_id, x_up_p, x_up_s, x_up_o, x_fill_p, x_fill_i, x_fill_o, x_cpy_p, x_cpy_i, x_cpy_o, x_upR_p, x_upR_s, x_upR_o, x_zM_p, x_zR_p, x_set_p, x_set_s, tb_CM, tb_SM, xm_cats, xm_cat, List.length_cons, List.length_nil, x_cmp_ge, x_cmp_le, x_cmp_gt, x_cmp_lt, x_cmp_eq, not_true_eq_false, not_false_eq_true, true_and, and_true, Int.add_zero, Int.zero_add, Int.cast_ofNat_Int, Int.sub_zero, ha, hb, hg]; done) | fail) ?_ (sw_vac (by first | omega | (simp (disch := omega) only [w32_id, w64_id, x_up_p, x_up_s, x_up_o, x_fill_p, x_fill_i, x_fill_o, x_cpy_p, x_cpy_i, x_cpy_o, x_upR_p, x_upR_s, x_upR_o, x_zM_p, x_zR_p, x_set_p, x_set_s, tb_CM, tb_SM, xm_cats, xm_cat, List.length_cons, List.length_nil, x_cmp_ge, x_cmp_le, x_cmp_gt, x_cmp_lt, x_cmp_eq, not_true_eq_false, not_false_eq_true, true_and, and_true, Int.add_zero, Int.zero_add, Int.cast_ofNat_Int, Int.sub_zero, ha, hb, hg] <;> omega) | (simp (disch := omega) only [w32_id, w64_id, x_up_p, x_up_s, x_up_o, x_fill_p, x_fill_i, x_fill_o, x_cpy_p, x_cpy_i, x_cpy_o, x_upR_p, x_upR_s, x_upR_o, x_zM_p, x_zR_p, x_set_p, x_set_s, tb_CM, tb_SM, xm_cats, xm_cat, List.length_cons, List.length_nil, x_cmp_ge, x_cmp_le, x_cmp_gt, x_cmp_lt, x_cmp_eq, not_true_eq_false, not_false_eq_true, true_and, and_true, Int.add_zero, Int.zero_add, Int.cast_ofNat_Int, Int.sub_zero, ha, hb, hg]; done) | fail)); (conv => whnf)) | (refine sw_next (by first | omega | (simp (disch := omega) only [w32_id, w64_id, x_up_p, x_up_s, x_up_o, x_fill_p, x_fill_i, x_fill_o, x_cpy_p, x_cpy_i, x_cpy_o, x_upR_p, x_upR_s, x_upR_o, x_zM_p, x_zR_p, x_set_p, x_set_s, tb_CM, tb_SM, xm_cats, xm_cat, List.length_cons, List.length_nil, x_cmp_ge, x_cmp_le, x_cmp_gt, x_cmp_lt, x_cmp_eq, not_true_eq_false, not_false_eq_true, true_and, and_true, Int.add_zero, Int.zero_add, Int.cast_ofNat_Int, Int.sub_zero, ha, hb, hg] <;> omega) | (simp (disch := omega) only [w32_id, w64_id, x_up_p, x_up_s, x_up_o, x_fill_p, x_fill_i, x_fill_o, x_cpy_p, x_cpy_i, x_cpy_o, x_upR_p, x_upR_s, x_upR_o, x_zM_p, x_zR_p, x_set_p, x_set_s, tb_CM, tb_SM, xm_cats, xm_cat, List.length_cons, List.length_nil, x_cmp_ge, x_cmp_le, x_cmp_gt, x_cmp_lt, x_cmp_eq, not_true_eq_false, not_false_eq_true, true_and, and_true, Int.add_zero, Int.zero_add, Int.cast_ofNat_Int, Int.sub_zero, ha, hb, hg]; done) | fail) ?_; (conv => whnf)) | (refine sw_def (by first | omega | (simp (disch := omega) only [w32_id, w64_id, x_up_p, x_up_s, x_up_o, x_fill_p, x_fill_i, x_fill_o, x_cpy_p, x_cpy_i, x_cpy_o, x_upR_p, x_upR_s, x_upR_o, x_zM_p, x_zR_p, x_set_p, x_set_s, tb_CM, tb_SM, xm_cats, xm_cat, List.length_cons, List.length_nil, x_cmp_ge, x_cmp_le, x_cmp_gt, x_cmp_lt, x_cmp_eq, not_true_eq_false, not_false_eq_true, true_and, and_true, Int.add_zero, Int.zero_add, Int.cast_ofNat_Int, Int.sub_zero, ha, hb, hg] <;> omega) | (simp (disch := omega) only [w32_id, w64_id, x_up_p, x_up_s, x_up_o, x_fill_p, x_fill_i, x_fill_o, x_cpy_p, x_cpy_i, x_cpy_o, x_upR_p, x_upR_s, x_upR_o, x_zM_p, x_zR_p, x_set_p, x_set_s, tb_CM, tb_SM, xm_cats, xm_cat, List.length_cons, List.length_nil, x_cmp_ge, x_cmp_le, x_cmp_gt, x_cmp_lt, x_cmp_eq, not_true_eq_false, not_false_eq_true, true_and, and_true, Int.add_zero, Int.zero_add, Int.cast_ofNat_Int, Int.sub_zero, ha, hb, hg]; done) | fail) ?_; (conv => whnf)) | (refine And.intro (by first | omega | (simp (disch := omega) only [w32_id, w64_id, x_up_p, x_up_s, x_up_o, x_fill_p, x_fill_i, x_fill_o, x_cpy_p, x_cpy_i, x_cpy_o, x_upR_p, x_upR_s, x_upR_o, x_zM_p, x_zR_p, x_set_p, x_set_s, tb_CM, tb_SM, xm_cats, xm_cat, List.length_cons, List.length_nil, x_cmp_ge, x_cmp_le, x_cmp_gt, x_cmp_lt, x_cmp_eq, not_true_eq_false, not_false_eq_true, true_and, and_true, Int.add_zero, Int.zero_add, Int.cast_ofNat_Int, Int.sub_zero, ha, hb, hg] <;> omega) | (simp (disch := omega) only [w32_id, w64_id, x_up_p, x_up_s, x_up_o, x_fill_p, x_fill_i, x_fill_o, x_cpy_p, x_cpy_i, x_cpy_o, x_upR_p, x_upR_s, x_upR_o, x_zM_p, x_zR_p, x_set_p, x_set_s, tb_CM, tb_SM, xm_cats, xm_cat, List.length_cons, List.length_nil, x_cmp_ge, x_cmp_le, x_cmp_gt, x_cmp_lt, x_cmp_eq, not_true_eq_false, not_false_eq_true, true_and, and_true, Int.add_zero, Int.zero_add, Int.cast_ofNat_Int, Int.sub_zero, ha, hb, hg]; done) | fail) ?_; (conv => whnf)))
  refine hC _ _ _ _ _ (xm_call_mono (Nat.le_refl _) (fun oo s2 hq1 => ?_) (xm_castc dc (by first | rfl | simp (disch := omega) only [w32_id, w64_id, x_up_p, x_up_s, x_up_o, x_fill_p, x_fill_i, x_fill_o, x_cpy_p, x_cpy_i, x_cpy_o, x_upR_p, x_upR_s, x_upR_o, x_zM_p, x_zR_p, x_set_p, x_set_s, tb_CM, tb_SM, xm_cats, xm_cat, List.length_cons, List.length_nil, x_cmp_ge, x_cmp_le, x_cmp_gt, x_cmp_lt, x_cmp_eq, not_true_eq_false, not_false_eq_true, true_and, and_true, Int.add_zero, Int.zero_add, Int.cast_ofNat_Int, Int.sub_zero, ha, hb, hg]) rfl))
  obtain ⟨v, v3, rfl, hv⟩ := hq1
  obtain ⟨ρ2, e2, M2, R2, sl2⟩ := s2
  have hv1 := hv d
  (conv => whnf)
  repeat (first | (refine br_t (by first | omega | (simp (disch := omega) only [w32_id, w64_id, x_up_p, x_up_s, x_up_o, x_fill_p, x_fill_i, x_fill_o, x_cpy_p, x_cpy_i, x_cpy_o, x_upR_p, x_upR_s, x_upR_o, x_zM_p, x_zR_p, x_set_p, x_set_s, tb_CM, tb_SM, xm_cats, xm_cat, List.length_cons, List.length_nil, x_cmp_ge, x_cmp_le, x_cmp_gt, x_cmp_lt, x_cmp_eq, not_true_eq_false, not_false_eq_true, true_and, and_true, Int.add_zero, Int.zero_add, Int.cast_ofNat_Int, Int.sub_zero, ha, hb, hg] <;> omega) | (simp (disch := omega) only [w32_id, w64_id, x_up_p, x_up_s, x_up_o, x_fill_p, x_fill_i, x_fill_o, x_cpy_p, x_cpy_i, x_cpy_o, x_upR_p, x_upR_s, x_upR_o, x_zM_p, x_zR_p, x_set_p, x_set_s, tb_CM, tb_SM, xm_cats, xm_cat, List.length_cons, List.length_nil, x_cmp_ge, x_cmp_le, x_cmp_gt, x_cmp_lt, x_cmp_eq, not_true_eq_false, not_false_eq_true, true_and, and_true, Int.add_zero, Int.zero_add, Int.cast_ofNat_Int, Int.sub_zero, ha, hb, hg]; done) | fail) ?_; (conv => whnf)) | (refine br_f (by first | omega | (simp (disch := omega) only [w32_id, w64_id, x_up_p, x_up_s, x_up_o, x_fill_p, x_fill_i, x_fill_o, x_cpy_p, x_cpy_i, x_cpy_o, x_upR_p, x_upR_s, x_upR_o, x_zM_p, x_zR_p, x_set_p, x_set_s, tb_CM, tb_SM, xm_cats, xm_cat, List.length_cons, List.length_nil, x_cmp_ge, x_cmp_le, x_cmp_gt, x_cmp_lt, x_cmp_eq, not_true_eq_false, not_false_eq_true, true_and, and_true, Int.add_zero, Int.zero_add, Int.cast_ofNat_Int, Int.sub_zero, ha, hb, hg] <;> omega) | (simp (disch := omega) only [w32_id, w64_id, x_up_p, x_up_s, x_up_o, x_fill_p, x_fill_i, x_fill_o, x_cpy_p, x_cpy_i, x_cpy_o, x_upR_p, x_upR_s, x_upR_o, x_zM_p, x_zR_p, x_set_p, x_set_s, tb_CM, tb_SM, xm_cats, xm_cat, List.length_cons, List.length_nil, x_cmp_ge, x_cmp_le, x_cmp_gt, x_cmp_lt, x_cmp_eq, not_true_eq_false, not_false_eq_true, true_and, and_true, Int.add_zero, Int.zero_add, Int.cast_ofNat_Int, Int.sub_zero, ha, hb, hg]; done) | fail) ?_; (conv => whnf)) | (refine sw_in (by first | omega | (simp (disch := omega) only [w32_id, w64_id, x_up_p, x_up_s, x_up_o, x_fill_p, x_fill_i, x_fill_o, x_cpy_p, x_cpy_i, x_cpy_o, x_upR_p, x_upR_s, x_upR_o, x_zM_p, x_zR_p, x_set_p, x_set_s, tb_CM, tb_SM, xm_cats, xm_cat, List.length_cons, List.length_nil, x_cmp_ge, x_cmp_le, x_cmp_gt, x_cmp_lt, x_cmp_eq, not_true_eq_false, not_false_eq_true, true_and, and_true, Int.add_zero, Int.zero_add, Int.cast_ofNat_Int, Int.sub_zero, ha, hb, hg] <;> omega) | (simp (disch := omega) only [w32_id, w64_id, x_up_p, x_up_s, x_up_o, x_fill_p, x_fill_i, x_fill_o, x_cpy_p, x_cpy_i, x_cpy_o, x_upR_p, x_upR_s, x_upR_o, x_zM_p, x_zR_p, x_set_p, x_set_s, tb_CM, tb_SM, xm_cats, xm_cat, List.length_cons, List.length_nil, x_cmp_ge, x_cmp_le, x_cmp_gt, x_cmp_lt, x_cmp_eq, not_true_eq_false, not_false_eq_true, true_and, and_true, Int.add_zero, Int.zero_add, Int.cast_ofNat_Int, Int.sub_zero, ha, hb, hg]; done) | fail) ?_; (conv => whnf)) | (refine sw_hit (by first | omega | (simp (disch := omega) only [w32_id, w64_id, x_up_p, x_up_s, x_up_o, x_fill_p, x_fill_i, x_fill_o, x_cpy_p, x_cpy_i, x_cpy_o, x_upR_p, x_upR_s, x_upR_o, x_zM_p, x_zR_p, x_set_p, x_set_s, tb_CM, tb_SM, xm_cats, xm_cat, List.length_cons, List.length_nil, x_cmp_ge, x_cmp_le, x_cmp_gt, x_cmp_lt, x_cmp_eq, not_true_eq_false, not_false_eq_true, true_and, and_true, Int.add_zero, Int.zero_add, Int.cast_ofNat_Int, Int.sub_zero, ha, hb, hg] <;> omega) | (simp (disch := omega) only [w32_id, w64_id, x_up_p, x_up_s, x_up_o, x_fill_p, x_fill_i, x_fill_o, x_cpy_p, x_cpy_i, x_cpy_o, x_upR_p, x_upR_s, x_upR_o, x_zM_p, x_zR_p, x_set_p, x_set_s, tb_CM, tb_SM, xm_cats, xm_cat, List.length_cons, List.length_nil, x_cmp_ge, x_cmp_le, x_cmp_gt, x_cmp_lt, x_cmp_eq, not_true_eq_false, not_false_eq_true, true_and, and_true, Int.add_zero, Int.zero_add, Int.cast_ofNat_Int, Int.sub_zero, ha, hb, hg]; done) | fail) ?_ (sw_vac (by first | omega | (simp (disch := omega) only [w32_id, w64_id, x_up_p, x_up_s, x_up_o, x_fill_p, x_fill_i, x_fill_o, x_cpy_p, x_cpy_i, x_cpy_o, x_upR_p, x_upR_s, x_upR_o, x_zM_p, x_zR_p, x_set_p, x_set_s, tb_CM, tb_SM, xm_cats, xm_cat, List.length_cons, List.length_nil, x_cmp_ge, x_cmp_le, x_cmp_gt, x_cmp_lt, x_cmp_eq, not_true_eq_false, not_false_eq_true, true_and, and_true, Int.add_zero, Int.zero_add, Int.cast_ofNat_Int, Int.sub_zero, ha, hb, hg] <;> omega) | (simp (disch := omega) only [w32_id, w64_id, x_up_p, x_up_s, x_up_o, x_fill_p, x_fill_i, x_fill_o, x_cpy_p, x_cpy_i, x_cpy_o, x_upR_p, x_upR_s, x_upR_o, x_zM_p, x_zR_p, x_set_p, x_set_s, tb_CM, tb_SM, xm_cats, xm_cat, List.length_cons, List.length_nil, x_cmp_ge, x_cmp_le, x_cmp_gt, x_cmp_lt, x_cmp_eq, not_true_eq_false, not_false_eq_true, true_and, and_true, Int.add_zero, Int.zero_add, Int.cast_ofNat_Int, Int.sub_zero, ha, hb, hg]; done) | fail)); (conv => whnf)) | (refine sw_next (by first | omega | (simp (disch := omega) only [w32_id, w64_id, x_up_p, x_up_s, x_up_o, x_fill_p, x_fill_i, x_fill_o, x_cpy_p, x_cpy_i, x_cpy_o, x_upR_p, x_upR_s, x_upR_o, x_zM_p, x_zR_p, x_set_p, x_set_s, tb_CM, tb_SM, xm_cats, xm_cat, List.length_cons, List.length_nil, x_cmp_ge, x_cmp_le, x_cmp_gt, x_cmp_lt, x_cmp_eq, not_true_eq_false, not_false_eq_true, true_and, and_true, Int.add_zero, Int.zero_add, Int.cast_ofNat_Int, Int.sub_zero, ha, hb, hg] <;> omega) | (simp (disch := omega) only [w32_id, w64_id, x_up_p, x_up_s, x_up_o, x_fill_p, x_fill_i, x_fill_o, x_cpy_p, x_cpy_i, x_cpy_o, x_upR_p, x_upR_s, x_upR_o, x_zM_p, x_zR_p, x_set_p, x_set_s, tb_CM, tb_SM, xm_cats, xm_cat, List.length_cons, List.length_nil, x_cmp_ge, x_cmp_le, x_cmp_gt, x_cmp_lt, x_cmp_eq, not_true_eq_false, not_false_eq_true, true_and, and_true, Int.add_zero, Int.zero_add, Int.cast_ofNat_Int, Int.sub_zero, ha, hb, hg]; done) | fail) ?_; (conv => whnf)) | (refine sw_def (by first | omega | (simp (disch := omega) only [w32_id, w64_id, x_up_p, x_up_s, x_up_o, x_fill_p, x_fill_i, x_fill_o, x_cpy_p, x_cpy_i, x_cpy_o, x_upR_p, x_upR_s, x_upR_o, x_zM_p, x_zR_p, x_set_p, x_set_s, tb_CM, tb_SM, xm_cats, xm_cat, List.length_cons, List.length_nil, x_cmp_ge, x_cmp_le, x_cmp_gt, x_cmp_lt, x_cmp_eq, not_true_eq_false, not_false_eq_true, true_and, and_true, Int.add_zero, Int.zero_add, Int.cast_ofNat_Int, Int.sub_zero, ha, hb, hg] <;> omega) | (simp (disch := omega) only [w32_id, w64_id, x_up_p, x_up_s, x_up_o, x_fill_p, x_fill_i, x_fill_o, x_cpy_p, x_cpy_i, x_cpy_o, x_upR_p, x_upR_s, x_upR_o, x_zM_p, x_zR_p, x_set_p, x_set_s, tb_CM, tb_SM, xm_cats, xm_cat, List.length_cons, List.length_nil, x_cmp_ge, x_cmp_le, x_cmp_gt, x_cmp_lt, x_cmp_eq, not_true_eq_false, not_false_eq_true, true_and, and_true, Int.add_zero, Int.zero_add, Int.cast_ofNat_Int, Int.sub_zero, ha, hb, hg]; done) | fail) ?_; (conv => whnf)) | (refine And.intro (by first | omega | (simp (disch := omega) only [w32_id, w64_id, x_up_p, x_up_s, x_up_o, x_fill_p, x_fill_i, x_fill_o, x_cpy_p, x_cpy_i, x_cpy_o, x_upR_p, x_upR_s, x_upR_o, x_zM_p, x_zR_p, x_set_p, x_set_s, tb_CM, tb_SM, xm_cats, xm_cat, List.length_cons, List.length_nil, x_cmp_ge, x_cmp_le, x_cmp_gt, x_cmp_lt, x_cmp_eq, not_true_eq_false, not_false_eq_true, true_and, and_true, Int.add_zero, Int.zero_add, Int.cast_ofNat_Int, Int.sub_zero, ha, hb, hg] <;> omega) | (simp (disch := omega) only [w32_id, w64_id, x_up_p, x_up_s, x_up_o, x_fill_p, x_fill_i, x_fill_o, x_cpy_p, x_cpy_i, x_cpy_o, x_upR_p, x_upR_s, x_upR_o, x_zM_p, x_zR_p, x_set_p, x_set_s, tb_CM, tb_SM, xm_cats, xm_cat, List.length_cons, List.length_nil, x_cmp_ge, x_cmp_le, x_cmp_gt, x_cmp_lt, x_cmp_eq, not_true_eq_false, not_false_eq_true, true_and, and_true, Int.add_zero, Int.zero_add, Int.cast_ofNat_Int, Int.sub_zero, ha, hb, hg]; done) | fail) ?_; (conv => whnf)))
  refine hC _ _ _ _ _ (xm_call_mono (Nat.le_refl _) (fun oo s3 hq2 => ?_) (xm_castc hv1 (by first | rfl | simp (disch := omega) only [w32_id, w64_id, x_up_p, x_up_s, x_up_o, x_fill_p, x_fill_i, x_fill_o, x_cpy_p, x_cpy_i, x_cpy_o, x_upR_p, x_upR_s, x_upR_o, x_zM_p, x_zR_p, x_set_p, x_set_s, tb_CM, tb_SM, xm_cats, xm_cat, List.length_cons, List.length_nil, x_cmp_ge, x_cmp_le, x_cmp_gt, x_cmp_lt, x_cmp_eq, not_true_eq_false, not_false_eq_true, true_and, and_true, Int.add_zero, Int.zero_add, Int.cast_ofNat_Int, Int.sub_zero, ha, hb, hg]) rfl))
  obtain ⟨a, rfl, w0, w1, w2, w3, w4⟩ := hq2
  obtain ⟨ρ3, e3, M3, R3, sl3⟩ := s3
  dsimp only at w0 w1
  have fin := hK ρ3 e3 M3 R3 sl3 w2 w3 w4
  rcases v3 with rfl | rfl | rfl
  · obtain ⟨u1, u2, u3⟩ := w1 rfl
    (conv => whnf)
    repeat (first | (refine br_t (by first | omega | (simp (disch := omega) only [w32_id, w64_id, x_up_p, x_up_s, x_up_o, x_fill_p, x_fill_i, x_fill_o, x_cpy_p, x_cpy_i, x_cpy_o, x_upR_p, x_upR_s, x_upR_o, x_zM_p, x_zR_p, x_set_p, x_set_s, tb_CM, tb_SM, xm_cats, xm_cat, List.length_cons, List.length_nil, x_cmp_ge, x_cmp_le, x_cmp_gt, x_cmp_lt, x_cmp_eq, not_true_eq_false, not_false_eq_true, true_and, and_true, Int.add_zero, Int.zero_add, Int.cast_ofNat_Int, Int.sub_zero, w0, u1] <;> omega) | (simp (disch := omega) only [w32_id, w64_id, x_up_p, x_up_s, x_up_o, x_fill_p, x_fill_i, x_fill_o, x_cpy_p, x_cpy_i, x_cpy_o, x_upR_p, x_upR_s, x_upR_o, x_zM_p, x_zR_p, x_set_p, x_set_s, tb_CM, tb_SM, xm_cats, xm_cat, List.length_cons, List.length_nil, x_cmp_ge, x_cmp_le, x_cmp_gt, x_cmp_lt, x_cmp_eq, not_true_eq_false, not_false_eq_true, true_and, and_true, Int.add_zero, Int.zero_add, Int.cast_ofNat_Int, Int.sub_zero, w0, u1]; done) | fail) ?_; (conv => whnf)) | (refine br_f (by first | omega | (simp (disch := omega) only [w32_id, w64_id, x_up_p, x_up_s, x_up_o, x_fill_p, x_fill_i, x_fill_o, x_cpy_p, x_cpy_i, x_cpy_o, x_upR_p, x_upR_s, x_upR_o, x_zM_p, x_zR_p, x_set_p, x_set_s, tb_CM, tb_SM, xm_cats, xm_cat, List.length_cons, List.length_nil, x_cmp_ge, x_cmp_le, x_cmp_gt, x_cmp_lt, x_cmp_eq, not_true_eq_false, not_false_eq_true, true_and, and_true, Int.add_zero, Int.zero_add, Int.cast_ofNat_Int, Int.sub_zero, w0, u1] <;> omega) | (simp (disch := omega) only [w32_id, w64_id, x_up_p, x_up_s, x_up_o, x_fill_p, x_fill_i, x_fill_o, x_cpy_p, x_cpy_i, x_cpy_o, x_upR_p, x_upR_s, x_upR_o, x_zM_p, x_zR_p, x_set_p, x_set_s, tb_CM, tb_SM, xm_cats, xm_cat, List.length_cons, List.length_nil, x_cmp_ge, x_cmp_le, x_cmp_gt, x_cmp_lt, x_cmp_eq, not_true_eq_false, not_false_eq_true, true_and, and_true, Int.add_zero, Int.zero_add, Int.cast_ofNat_Int, Int.sub_zero, w0, u1]; done) | fail) ?_; (conv => whnf)) | (refine sw_in (by first | omega | (simp (disch := omega) only [w32_id, w64_id, x_up_p, x_up_s, x_up_o, x_fill_p, x_fill_i, x_fill_o, x_cpy_p, x_cpy_i, x_cpy_o, x_upR_p, x_upR_s, x_upR_o, x_zM_p, x_zR_p, x_set_p, x_set_s, tb_CM, tb_SM, xm_cats, xm_cat, List.length_cons, List.length_nil, x_cmp_ge, x_cmp_le, x_cmp_gt, x_cmp_lt, x_cmp_eq, not_true_eq_false, not_false_eq_true, true_and, and_true, Int.add_zero, Int.zero_add, Int.cast_ofNat_Int, Int.sub_zero, w0, u1] <;> omega) | (simp (disch := omega) only [w32_id, w64_id, x_up_p, x_up_s, x_up_o, x_fill_p, x_fill_i, x_fill_o, x_cpy_p, x_cpy_i, x_cpy_o, x_upR_p, x_upR_s, x_upR_o, x_zM_p, x_zR_p, x_set_p, x_set_s, tb_CM, tb_SM, xm_cats, xm_cat, List.length_cons, List.length_nil, x_cmp_ge, x_cmp_le, x_cmp_gt, x_cmp_lt, x_cmp_eq, not_true_eq_false, not_false_eq_true, true_and, and_true, Int.add_zero, Int.zero_add, Int.cast_ofNat_Int, Int.sub_zero, w0, u1]; done) | fail) ?_; (conv => whnf)) | (refine sw_hit (by first | omega | (simp (disch := omega) only [w32_id, w64_id, x_up_p, x_up_s, x_up_o, x_fill_p, x_fill_i, x_fill_o, x_cpy_p, x_cpy_i, x_cpy_o, x_upR_p, x_upR_s, x_upR_o, x_zM_p, x_zR_p, x_set_p, x_set_s, tb_CM, tb_SM, xm_cats, xm_cat, List.length_cons, List.length_nil, x_cmp_ge, x_cmp_le, x_cmp_gt, x_cmp_lt, x_cmp_eq, not_true_eq_false, not_false_eq_true, true_and, and_true, Int.add_zero, Int.zero_add, Int.cast_ofNat_Int, Int.sub_zero, w0, u1] <;> omega) | (simp (disch := omega) only [w32_id, w64_id, x_up_p, x_up_s, x_up_o, x_fill_p, x_fill_i, x_fill_o, x_cpy_p, x_cpy_i, x_cpy_o, x_upR_p, x_upR_s, x_upR_o, x_zM_p, x_zR_p, x_set_p, x_set_s, tb_CM, tb_SM, xm_cats, xm_cat, List.length_cons, List.length_nil, x_cmp_ge, x_cmp_le, x_cmp_gt, x_cmp_lt, x_cmp_eq, not_true_eq_false, not_false_eq_true, true_and, and_true, Int.add_zero, Int.zero_add, Int.cast_ofNat_Int, Int.sub_zero, w0, u1]; done) | fail) ?_ (sw_vac (by first | omega | (simp (disch := omega) only [w32_id, w64_id, x_up_p, x_up_s, x_up_o, x_fill_p, x_fill_i, x_fill_o, x_cpy_p, x_cpy_i, x_cpy_o, x_upR_p, x_upR_s, x_upR_o, x_zM_p, x_zR_p, x_set_p, x_set_s, tb_CM, tb_SM, xm_cats, xm_cat, List.length_cons, List.length_nil, x_cmp_ge, x_cmp_le, x_cmp_gt, x_cmp_lt, x_cmp_eq, not_true_eq_false, not_false_eq_true, true_and, and_true, Int.add_zero, Int.zero_add, Int.cast_ofNat_Int, Int.sub_zero, w0, u1] <;> omega) | (simp (disch := omega) only [w32_id, w64_id, x_up_p, x_up_s, x_up_o, x_fill_p, x_fill_i, x_fill_o, x_cpy_p, x_cpy_i, x_cpy_o, x_upR_p, x_upR_s, x_upR_o, x_zM_p, x_zR_p, x_set_p, x_set_s, tb_CM, tb_SM, xm_cats, xm_cat, List.length_cons, List.length_nil, x_cmp_ge, x_cmp_le, x_cmp_gt, x_cmp_lt, x_cmp_eq, not_true_eq_false, not_false_eq_true, true_and, and_true, Int.add_zero, Int.zero_add, Int.cast_ofNat_Int, Int.sub_zero, w0, u1]; done) | fail)); (conv => whnf)) | (refine sw_next (by first | omega | (simp (disch := omega) only [w32_id, w64_id, x_up_p, x_up_s, x_up_o, x_fill_p, x_fill_i, x_fill_o, x_cpy_p, x_cpy_i, x_cpy_o, x_upR_p, x_upR_s, x_upR_o, x_zM_p, x_zR_p, x_set_p, x_set_s, tb_CM, tb_SM, xm_cats, xm_cat, List.length_cons, List.length_nil, x_cmp_ge, x_cmp_le, x_cmp_gt, x_cmp_lt, x_cmp_eq, not_true_eq_false, not_false_eq_true, true_and, and_true, Int.add_zero, Int.zero_add, Int.cast_ofNat_Int, Int.sub_zero, w0, u1] <;> omega) | (simp (disch := omega) only [w32_id, w64_id, x_up_p, x_up_s, x_up_o, x_fill_p, x_fill_i, x_fill_o, x_cpy_p, x_cpy_i, x_cpy_o, x_upR_p, x_upR_s, x_upR_o, x_zM_p, x_zR_p, x_set_p, x_set_s, tb_CM, tb_SM, xm_cats, xm_cat, List.length_cons, List.length_nil, x_cmp_ge, x_cmp_le, x_cmp_gt, x_cmp_lt, x_cmp_eq, not_true_eq_false, not_false_eq_true, true_and, and_true, Int.add_zero, Int.zero_add, Int.cast_ofNat_Int, Int.sub_zero, w0, u1]; done) | fail) ?_; (conv => whnf)) | (refine sw_def (by first | omega | (simp (disch := omega) only [w32_id, w64_id, x_up_p, x_up_s, x_up_o, x_fill_p, x_fill_i, x_fill_o, x_cpy_p, x_cpy_i, x_cpy_o, x_upR_p, x_upR_s, x_upR_o, x_zM_p, x_zR_p, x_set_p, x_set_s, tb_CM, tb_SM, xm_cats, xm_cat, List.length_cons, List.length_nil, x_cmp_ge, x_cmp_le, x_cmp_gt, x_cmp_lt, x_cmp_eq, not_true_eq_false, not_false_eq_true, true_and, and_true, Int.add_zero, Int.zero_add, Int.cast_ofNat_Int, Int.sub_zero, w0, u1] <;> omega) | (simp (disch := omega) only [w32_id, w64_id, x_up_p, x_up_s, x_up_o, x_fill_p, x_fill_i, x_fill_o, x_cpy_p, x_cpy_i, x_cpy_o, x_upR_p, x_upR_s, x_upR_o, x_zM_p, x_zR_p, x_set_p, x_set_s, tb_CM, tb_SM, xm_cats, xm_cat, List.length_cons, List.length_nil, x_cmp_ge, x_cmp_le, x_cmp_gt, x_cmp_lt, x_cmp_eq, not_true_eq_false, not_false_eq_true, true_and, and_true, Int.add_zero, Int.zero_add, Int.cast_ofNat_Int, Int.sub_zero, w0, u1]; done) | fail) ?_; (conv => whnf)) | (refine And.intro (by first | omega | (simp (disch := omega) only [w32_id, w64_id, x_up_p, x_up_s, x_up_o, x_fill_p, x_fill_i, x_fill_o, x_cpy_p, x_cpy_i, x_cpy_o, x_upR_p, x_upR_s, x_upR_o, x_zM_p, x_zR_p, x_set_p, x_set_s, tb_CM, tb_SM, xm_cats, xm_cat, List.length_cons, List.length_nil, x_cmp_ge, x_cmp_le, x_cmp_gt, x_cmp_lt, x_cmp_eq, not_true_eq_false, not_false_eq_true, true_and, and_true, Int.add_zero, Int.zero_add, Int.cast_ofNat_Int, Int.sub_zero, w0, u1] <;> omega) | (simp (disch := omega) only [w32_id, w64_id, x_up_p, x_up_s, x_up_o, x_fill_p, x_fill_i, x_fill_o, x_cpy_p, x_cpy_i, x_cpy_o, x_upR_p, x_upR_s, x_upR_o, x_zM_p, x_zR_p, x_set_p, x_set_s, tb_CM, tb_SM, xm_cats, xm_cat, List.length_cons, List.length_nil, x_cmp_ge, x_cmp_le, x_cmp_gt, x_cmp_lt, x_cmp_eq, not_true_eq_false, not_false_eq_true, true_and, and_true, Int.add_zero, Int.zero_add, Int.cast_ofNat_Int, Int.sub_zero, w0, u1]; done) | fail) ?_; (conv => whnf)))
    exact hF _ _ _ _ _ _ _ fin
  · (conv => whnf)
    repeat (first | (refine br_t (by first | omega | (simp (disch := omega) only [w32_id, w64_id, x_up_p, x_up_s, x_up_o, x_fill_p, x_fill_i, x_fill_o, x_cpy_p, x_cpy_i, x_cpy_o, x_upR_p, x_upR_s, x_upR_o, x_zM_p, x_zR_p, x_set_p, x_set_s, tb_CM, tb_SM, xm_cats, xm_cat, List.length_cons, List.length_nil, x_cmp_ge, x_cmp_le, x_cmp_gt, x_cmp_lt, x_cmp_eq, not_true_eq_false, not_false_eq_true, true_and, and_true, Int.add_zero, Int.zero_add, Int.cast_ofNat_Int, Int.sub_zero, w0] <;> omega) | (simp (disch := omega) only [w32_id, w64_id, x_up_p, x_up_s, x_up_o, x_fill_p, x_fill_i, x_fill_o, x_cpy_p, x_cpy_i, x_cpy_o, x_upR_p, x_upR_s, x_upR_o, x_zM_p, x_zR_p, x_set_p, x_set_s, tb_CM, tb_SM, xm_cats, xm_cat, List.length_cons, List.length_nil, x_cmp_ge, x_cmp_le, x_cmp_gt, x_cmp_lt, x_cmp_eq, not_true_eq_false, not_false_eq_true, true_and, and_true, Int.add_zero, Int.zero_add, Int.cast_ofNat_Int, Int.sub_zero, w0]; done) | fail) ?_; (conv => whnf)) | (refine br_f (by first | omega | (simp (disch := omega) only [w32_id, w64_id, x_up_p, x_up_s, x_up_o, x_fill_p, x_fill_i, x_fill_o, x_cpy_p, x_cpy_i, x_cpy_o, x_upR_p, x_upR_s, x_upR_o, x_zM_p, x_zR_p, x_set_p, x_set_s, tb_CM, tb_SM, xm_cats, xm_cat, List.length_cons, List.length_nil, x_cmp_ge, x_cmp_le, x_cmp_gt, x_cmp_lt, x_cmp_eq, not_true_eq_false, not_false_eq_true, true_and, and_true, Int.add_zero, Int.zero_add, Int.cast_ofNat_Int, Int.sub_zero, w0] <;> omega) | (simp (disch := omega) only [w32_id, w64_id, x_up_p, x_up_s, x_up_o, x_fill_p, x_fill_i, x_fill_o, x_cpy_p, x_cpy_i, x_cpy_o, x_upR_p, x_upR_s, x_upR_o, x_zM_p, x_zR_p, x_set_p, x_set_s, tb_CM, tb_SM, xm_cats, xm_cat, List.length_cons, List.length_nil, x_cmp_ge, x_cmp_le, x_cmp_gt, x_cmp_lt, x_cmp_eq, not_true_eq_false, not_false_eq_true, true_and, and_true, Int.add_zero, Int.zero_add, Int.cast_ofNat_Int, Int.sub_zero, w0]; done) | fail) ?_; (conv => whnf)) | (refine sw_in (by first | omega | (simp (disch := omega) only [w32_id, w64_id, x_up_p, x_up_s, x_up_o, x_fill_p, x_fill_i, x_fill_o, x_cpy_p, x_cpy_i, x_cpy_o, x_upR_p, x_upR_s, x_upR_o, x_zM_p, x_zR_p, x_set_p, x_set_s, tb_CM, tb_SM, xm_cats, xm_cat, List.length_cons, List.length_nil, x_cmp_ge, x_cmp_le, x_cmp_gt, x_cmp_lt, x_cmp_eq, not_true_eq_false, not_false_eq_true, true_and, and_true, Int.add_zero, Int.zero_add, Int.cast_ofNat_Int, Int.sub_zero, w0] <;> omega) | (simp (disch := omega) only [w32_id, w64_id, x_up_p, x_up_s, x_up_o, x_fill_p, x_fill_i, x_fill_o, x_cpy_p, x_cpy_i, x_cpy_o, x_upR_p, x_upR_s, x_upR_o, x_zM_p, x_zR_p, x_set_p, x_set_s, tb_CM, tb_SM, xm_cats, xm_cat, List.length_cons, List.length_nil, x_cmp_ge, x_cmp_le, x_cmp_gt, x_cmp_lt, x_cmp_eq, not_true_eq_false, not_false_eq_true, true_and, and_true, Int.add_zero, Int.zero_add, Int.cast_ofNat_Int, Int.sub_zero, w0]; done) | fail) ?_; (conv => whnf)) | (refine sw_hit (by first | omega | (simp (disch := omega) only [w32_id, w64_id, x_up_p, x_up_s, x_up_o, x_fill_p, x_fill_i, x_fill_o, x_cpy_p, x_cpy_i, x_cpy_o, x_upR_p, x_upR_s, x_upR_o, x_zM_p, x_zR_p, x_set_p, x_set_s, tb_CM, tb_SM, xm_cats, xm_cat, List.length_cons, List.length_nil, x_cmp_ge, x_cmp_le, x_cmp_gt, x_cmp_lt, x_cmp_eq, not_true_eq_false, not_false_eq_true, true_and, and_true, Int.add_zero, Int.zero_add, Int.cast_ofNat_Int, Int.sub_zero, w0] <;> omega) | (simp (disch := omega) only [w32_id, w64_id, x_up_p, x_up_s, x_up_o, x_fill_p, x_fill_i, x_fill_o, x_cpy_p, x_cpy_i, x_cpy_o, x_upR_p, x_upR_s, x_upR_o, x_zM_p, x_zR_p, x_set_p, x_set_s, tb_CM, tb_SM, xm_cats, xm_cat, List.length_cons, List.length_nil, x_cmp_ge, x_cmp_le, x_cmp_gt, x_cmp_lt, x_cmp_eq, not_true_eq_false, not_false_eq_true, true_and, and_true, Int.add_zero, Int.zero_add, Int.cast_ofNat_Int, Int.sub_zero, w0]; done) | fail) ?_ (sw_vac (by first | omega | (simp (disch := omega) only [w32_id, w64_id, x_up_p, x_up_s, x_up_o, x_fill_p, x_fill_i, x_fill_o, x_cpy_p, x_cpy_i, x_cpy_o, x_upR_p, x_upR_s, x_upR_o, x_zM_p, x_zR_p, x_set_p, x_set_s, tb_CM, tb_SM, xm_cats, xm_cat, List.length_cons, List.length_nil, x_cmp_ge, x_cmp_le, x_cmp_gt, x_cmp_lt, x_cmp_eq, not_true_eq_false, not_false_eq_true, true_and, and_true, Int.add_zero, Int.zero_add, Int.cast_ofNat_Int, Int.sub_zero, w0] <;> omega) | (simp (disch := omega) only [w32_id, w64_id, x_up_p, x_up_s, x_up_o, x_fill_p, x_fill_i, x_fill_o, x_cpy_p, x_cpy_i, x_cpy_o, x_upR_p, x_upR_s, x_upR_o, x_zM_p, x_zR_p, x_set_p, x_set_s, tb_CM, tb_SM, xm_cats, xm_cat, List.length_cons, List.length_nil, x_cmp_ge, x_cmp_le, x_cmp_gt, x_cmp_lt, x_cmp_eq, not_true_eq_false, not_false_eq_true, true_and, and_true, Int.add_zero, Int.zero_add, Int.cast_ofNat_Int, Int.sub_zero, w0]; done) | fail)); (conv => whnf)) | (refine sw_next (by first | omega | (simp (disch := omega) only [w32_id, w64_id, x_up_p, x_up_s, x_up_o, x_fill_p, x_fill_i, x_fill_o, x_cpy_p, x_cpy_i, x_cpy_o, x_upR_p, x_upR_s, x_upR_o, x_zM_p, x_zR_p, x_set_p, x_set_s, tb_CM, tb_SM, xm_cats, xm_cat, List.length_cons, List.length_nil, x_cmp_ge, x_cmp_le, x_cmp_gt, x_cmp_lt, x_cmp_eq, not_true_eq_false, not_false_eq_true, true_and, and_true, Int.add_zero, Int.zero_add, Int.cast_ofNat_Int, Int.sub_zero, w0] <;> omega) | (simp (disch := omega) only [w32_id, w64_id, x_up_p, x_up_s, x_up_o, x_fill_p, x_fill_i, x_fill_o, x_cpy_p, x_cpy_i, x_cpy_o, x_upR_p, x_upR_s, x_upR_o, x_zM_p, x_zR_p, x_set_p, x_set_s, tb_CM, tb_SM, xm_cats, xm_cat, List.length_cons, List.length_nil, x_cmp_ge, x_cmp_le, x_cmp_gt, x_cmp_lt, x_cmp_eq, not_true_eq_false, not_false_eq_true, true_and, and_true, Int.add_zero, Int.zero_add, Int.cast_ofNat_Int, Int.sub_zero, w0]; done) | fail) ?_; (conv => whnf)) | (refine sw_def (by first | omega | (simp (disch := omega) only [w32_id, w64_id, x_up_p, x_up_s, x_up_o, x_fill_p, x_fill_i, x_fill_o, x_cpy_p, x_cpy_i, x_cpy_o, x_upR_p, x_upR_s, x_upR_o, x_zM_p, x_zR_p, x_set_p, x_set_s, tb_CM, tb_SM, xm_cats, xm_cat, List.length_cons, List.length_nil, x_cmp_ge, x_cmp_le, x_cmp_gt, x_cmp_lt, x_cmp_eq, not_true_eq_false, not_false_eq_true, true_and, and_true, Int.add_zero, Int.zero_add, Int.cast_ofNat_Int, Int.sub_zero, w0] <;> omega) | (simp (disch := omega) only [w32_id, w64_id, x_up_p, x_up_s, x_up_o, x_fill_p, x_fill_i, x_fill_o, x_cpy_p, x_cpy_i, x_cpy_o, x_upR_p, x_upR_s, x_upR_o, x_zM_p, x_zR_p, x_set_p, x_set_s, tb_CM, tb_SM, xm_cats, xm_cat, List.length_cons, List.length_nil, x_cmp_ge, x_cmp_le, x_cmp_gt, x_cmp_lt, x_cmp_eq, not_true_eq_false, not_false_eq_true, true_and, and_true, Int.add_zero, Int.zero_add, Int.cast_ofNat_Int, Int.sub_zero, w0]; done) | fail) ?_; (conv => whnf)) | (refine And.intro (by first | omega | (simp (disch := omega) only [w32_id, w64_id, x_up_p, x_up_s, x_up_o, x_fill_p, x_fill_i, x_fill_o, x_cpy_p, x_cpy_i, x_cpy_o, x_upR_p, x_upR_s, x_upR_o, x_zM_p, x_zR_p, x_set_p, x_set_s, tb_CM, tb_SM, xm_cats, xm_cat, List.length_cons, List.length_nil, x_cmp_ge, x_cmp_le, x_cmp_gt, x_cmp_lt, x_cmp_eq, not_true_eq_false, not_false_eq_true, true_and, and_true, Int.add_zero, Int.zero_add, Int.cast_ofNat_Int, Int.sub_zero, w0] <;> omega) | (simp (disch := omega) only [w32_id, w64_id, x_up_p, x_up_s, x_up_o, x_fill_p, x_fill_i, x_fill_o, x_cpy_p, x_cpy_i, x_cpy_o, x_upR_p, x_upR_s, x_upR_o, x_zM_p, x_zR_p, x_set_p, x_set_s, tb_CM, tb_SM, xm_cats, xm_cat, List.length_cons, List.length_nil, x_cmp_ge, x_cmp_le, x_cmp_gt, x_cmp_lt, x_cmp_eq, not_true_eq_false, not_false_eq_true, true_and, and_true, Int.add_zero, Int.zero_add, Int.cast_ofNat_Int, Int.sub_zero, w0]; done) | fail) ?_; (conv => whnf)))
    exact hF _ _ _ _ _ _ _ fin
  · (conv => whnf)
    repeat (first | (refine br_t (by first | omega | (simp (disch := omega) only [w32_id, w64_id, x_up_p, x_up_s, x_up_o, x_fill_p, x_fill_i, x_fill_o, x_cpy_p, x_cpy_i, x_cpy_o, x_upR_p, x_upR_s, x_upR_o, x_zM_p, x_zR_p, x_set_p, x_set_s, tb_CM, tb_SM, xm_cats, xm_cat, List.length_cons, List.length_nil, x_cmp_ge, x_cmp_le, x_cmp_gt, x_cmp_lt, x_cmp_eq, not_true_eq_false, not_false_eq_true, true_and, and_true, Int.add_zero, Int.zero_add, Int.cast_ofNat_Int, Int.sub_zero, w0] <;> omega) | (simp (disch := omega) only [w32_id, w64_id, x_up_p, x_up_s, x_up_o, x_fill_p, x_fill_i, x_fill_o, x_cpy_p, x_cpy_i, x_cpy_o, x_upR_p, x_upR_s, x_upR_o, x_zM_p, x_zR_p, x_set_p, x_set_s, tb_CM, tb_SM, xm_cats, xm_cat, List.length_cons, List.length_nil, x_cmp_ge, x_cmp_le, x_cmp_gt, x_cmp_lt, x_cmp_eq, not_true_eq_false, not_false_eq_true, true_and, and_true, Int.add_zero, Int.zero_add, Int.cast_ofNat_Int, Int.sub_zero, w0]; done) | fail) ?_; (conv => whnf)) | (refine br_f (by first | omega | (simp (disch := omega) only [w32_id, w64_id, x_up_p, x_up_s, x_up_o, x_fill_p, x_fill_i, x_fill_o, x_cpy_p, x_cpy_i, x_cpy_o, x_upR_p, x_upR_s, x_upR_o, x_zM_p, x_zR_p, x_set_p, x_set_s, tb_CM, tb_SM, xm_cats, xm_cat, List.length_cons, List.length_nil, x_cmp_ge, x_cmp_le, x_cmp_gt, x_cmp_lt, x_cmp_eq, not_true_eq_false, not_false_eq_true, true_and, and_true, Int.add_zero, Int.zero_add, Int.cast_ofNat_Int, Int.sub_zero, w0] <;> omega) | (simp (disch := omega) only [w32_id, w64_id, x_up_p, x_up_s, x_up_o, x_fill_p, x_fill_i, x_fill_o, x_cpy_p, x_cpy_i, x_cpy_o, x_upR_p, x_upR_s, x_upR_o, x_zM_p, x_zR_p, x_set_p, x_set_s, tb_CM, tb_SM, xm_cats, xm_cat, List.length_cons, List.length_nil, x_cmp_ge, x_cmp_le, x_cmp_gt, x_cmp_lt, x_cmp_eq, not_true_eq_false, not_false_eq_true, true_and, and_true, Int.add_zero, Int.zero_add, Int.cast_ofNat_Int, Int.sub_zero, w0]; done) | fail) ?_; (conv => whnf)) | (refine sw_in (by first | omega | (simp (disch := omega) only [w32_id, w64_id, x_up_p, x_up_s, x_up_o, x_fill_p, x_fill_i, x_fill_o, x_cpy_p, x_cpy_i, x_cpy_o, x_upR_p, x_upR_s, x_upR_o, x_zM_p, x_zR_p, x_set_p, x_set_s, tb_CM, tb_SM, xm_cats, xm_cat, List.length_cons, List.length_nil, x_cmp_ge, x_cmp_le, x_cmp_gt, x_cmp_lt, x_cmp_eq, not_true_eq_false, not_false_eq_true, true_and, and_true, Int.add_zero, Int.zero_add, Int.cast_ofNat_Int, Int.sub_zero, w0] <;> omega) | (simp (disch := omega) only [w32_id, w64_id, x_up_p, x_up_s, x_up_o, x_fill_p, x_fill_i, x_fill_o, x_cpy_p, x_cpy_i, x_cpy_o, x_upR_p, x_upR_s, x_upR_o, x_zM_p, x_zR_p, x_set_p, x_set_s, tb_CM, tb_SM, xm_cats, xm_cat, List.length_cons, List.length_nil, x_cmp_ge, x_cmp_le, x_cmp_gt, x_cmp_lt, x_cmp_eq, not_true_eq_false, not_false_eq_true, true_and, and_true, Int.add_zero, Int.zero_add, Int.cast_ofNat_Int, Int.sub_zero, w0]; done) | fail) ?_; (conv => whnf)) | (refine sw_hit (by first | omega | (simp (disch := omega) only [w32_id, w64_id, x_up_p, x_up_s, x_up_o, x_fill_p, x_fill_i, x_fill_o, x_cpy_p, x_cpy_i, x_cpy_o, x_upR_p, x_upR_s, x_upR_o, x_zM_p, x_zR_p, x_set_p, x_set_s, tb_CM, tb_SM, xm_cats, xm_cat, List.length_cons, List.length_nil, x_cmp_ge, x_cmp_le, x_cmp_gt, x_cmp_lt, x_cmp_eq, not_true_eq_false, not_false_eq_true, true_and, and_true, Int.add_zero, Int.zero_add, Int.cast_ofNat_Int, Int.sub_zero, w0] <;> omega) | (simp (disch := omega) only [w32_id, w64_id, x_up_p, x_up_s, x_up_o, x_fill_p, x_fill_i, x_fill_o, x_cpy_p, x_cpy_i, x_cpy_o, x_upR_p, x_upR_s, x_upR_o, x_zM_p, x_zR_p, x_set_p, x_set_s, tb_CM, tb_SM, xm_cats, xm_cat, List.length_cons, List.length_nil, x_cmp_ge, x_cmp_le, x_cmp_gt, x_cmp_lt, x_cmp_eq, not_true_eq_false, not_false_eq_true, true_and, and_true, Int.add_zero, Int.zero_add, Int.cast_ofNat_Int, Int.sub_zero, w0]; done) | fail) ?_ (sw_vac (by first | omega | (simp (disch := omega) only [w32_id, w64_id, x_up_p, x_up_s, x_up_o, x_fill_p, x_fill_i, x_fill_o, x_cpy_p, x_cpy_i, x_cpy_o, x_upR_p, x_upR_s, x_upR_o, x_zM_p, x_zR_p, x_set_p, x_set_s, tb_CM, tb_SM, xm_cats, xm_cat, List.length_cons, List.length_nil, x_cmp_ge, x_cmp_le, x_cmp_gt, x_cmp_lt, x_cmp_eq, not_true_eq_false, not_false_eq_true, true_and, and_true, Int.add_zero, Int.zero_add, Int.cast_ofNat_Int, Int.sub_zero, w0] <;> omega) | (simp (disch := omega) only [w32_id, w64_id, x_up_p, x_up_s, x_up_o, x_fill_p, x_fill_i, x_fill_o, x_cpy_p, x_cpy_i, x_cpy_o, x_upR_p, x_upR_s, x_upR_o, x_zM_p, x_zR_p, x_set_p, x_set_s, tb_CM, tb_SM, xm_cats, xm_cat, List.length_cons, List.length_nil, x_cmp_ge, x_cmp_le, x_cmp_gt, x_cmp_lt, x_cmp_eq, not_true_eq_false, not_false_eq_true, true_and, and_true, Int.add_zero, Int.zero_add, Int.cast_ofNat_Int, Int.sub_zero, w0]; done) | fail)); (conv => whnf)) | (refine sw_next (by first | omega | (simp (disch := omega) only [w32_id, w64_id, x_up_p, x_up_s, x_up_o, x_fill_p, x_fill_i, x_fill_o, x_cpy_p, x_cpy_i, x_cpy_o, x_upR_p, x_upR_s, x_upR_o, x_zM_p, x_zR_p, x_set_p, x_set_s, tb_CM, tb_SM, xm_cats, xm_cat, List.length_cons, List.length_nil, x_cmp_ge, x_cmp_le, x_cmp_gt, x_cmp_lt, x_cmp_eq, not_true_eq_false, not_false_eq_true, true_and, and_true, Int.add_zero, Int.zero_add, Int.cast_ofNat_Int, Int.sub_zero, w0] <;> omega) | (simp (disch := omega) only [w32_id, w64_id, x_up_p, x_up_s, x_up_o, x_fill_p, x_fill_i, x_fill_o, x_cpy_p, x_cpy_i, x_cpy_o, x_upR_p, x_upR_s, x_upR_o, x_zM_p, x_zR_p, x_set_p, x_set_s, tb_CM, tb_SM, xm_cats, xm_cat, List.length_cons, List.length_nil, x_cmp_ge, x_cmp_le, x_cmp_gt, x_cmp_lt, x_cmp_eq, not_true_eq_false, not_false_eq_true, true_and, and_true, Int.add_zero, Int.zero_add, Int.cast_ofNat_Int, Int.sub_zero, w0]; done) | fail) ?_; (conv => whnf)) | (refine sw_def (by first | omega | (simp (disch := omega) only [w32_id, w64_id, x_up_p, x_up_s, x_up_o, x_fill_p, x_fill_i, x_fill_o, x_cpy_p, x_cpy_i, x_cpy_o, x_upR_p, x_upR_s, x_upR_o, x_zM_p, x_zR_p, x_set_p, x_set_s, tb_CM, tb_SM, xm_cats, xm_cat, List.length_cons, List.length_nil, x_cmp_ge, x_cmp_le, x_cmp_gt, x_cmp_lt, x_cmp_eq, not_true_eq_false, not_false_eq_true, true_and, and_true, Int.add_zero, Int.zero_add, Int.cast_ofNat_Int, Int.sub_zero, w0] <;> omega) | (simp (disch := omega) only [w32_id, w64_id, x_up_p, x_up_s, x_up_o, x_fill_p, x_fill_i, x_fill_o, x_cpy_p, x_cpy_i, x_cpy_o, x_upR_p, x_upR_s, x_upR_o, x_zM_p, x_zR_p, x_set_p, x_set_s, tb_CM, tb_SM, xm_cats, xm_cat, List.length_cons, List.length_nil, x_cmp_ge, x_cmp_le, x_cmp_gt, x_cmp_lt, x_cmp_eq, not_true_eq_false, not_false_eq_true, true_and, and_true, Int.add_zero, Int.zero_add, Int.cast_ofNat_Int, Int.sub_zero, w0]; done) | fail) ?_; (conv => whnf)) | (refine And.intro (by first | omega | (simp (disch := omega) only [w32_id, w64_id, x_up_p, x_up_s, x_up_o, x_fill_p, x_fill_i, x_fill_o, x_cpy_p, x_cpy_i, x_cpy_o, x_upR_p, x_upR_s, x_upR_o, x_zM_p, x_zR_p, x_set_p, x_set_s, tb_CM, tb_SM, xm_cats, xm_cat, List.length_cons, List.length_nil, x_cmp_ge, x_cmp_le, x_cmp_gt, x_cmp_lt, x_cmp_eq, not_true_eq_false, not_false_eq_true, true_and, and_true, Int.add_zero, Int.zero_add, Int.cast_ofNat_Int, Int.sub_zero, w0] <;> omega) | (simp (disch := omega) only [w32_id, w64_id, x_up_p, x_up_s, x_up_o, x_fill_p, x_fill_i, x_fill_o, x_cpy_p, x_cpy_i, x_cpy_o, x_upR_p, x_upR_s, x_upR_o, x_zM_p, x_zR_p, x_set_p, x_set_s, tb_CM, tb_SM, xm_cats, xm_cat, List.length_cons, List.length_nil, x_cmp_ge, x_cmp_le, x_cmp_gt, x_cmp_lt, x_cmp_eq, not_true_eq_false, not_false_eq_true, true_and, and_true, Int.add_zero, Int.zero_add, Int.cast_ofNat_Int, Int.sub_zero, w0]; done) | fail) ?_; (conv => whnf)))
    exact hF _ _ _ _ _ _ _ fin
end

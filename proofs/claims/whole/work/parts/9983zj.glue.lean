/-! CHECK WENT WELL: of every function -/
theorem k_c2_vd {M : Nat → Int → Int} {fs : Int} {N : Int → Nat} : ∀ {n : Nat} {f : Int} {s s' : k_s}, k_c2 M fs N f n s = .inr s' → frl s s' ∧ ∀ g, f ≤ g → g < f + n → 0 ≤ M 88 g → 0 ≤ M 93 g → M 93 g ≤ 5 → ∀ (L : Nat) (t w : Int), vn M L (M 95 g) t w → vd M s'.2.2.2 L (M 95 g) (M 93 g).toNat
  | 0, f, s, s', h => by
    cases h
    exact ⟨fun _ h => h, fun g g0 g1 => by omega⟩
  | n + 1, f, s, s', h => by
    unfold k_c2 at h
    split at h
    · cases h
    · rename_i y hy
      split at h
      · cases h
      · rename_i x hx
        obtain ⟨i1, i2⟩ := k_c2_vd h
        refine ⟨frl_tr (kR_hd frR hy) (frl_tr (kR_ck frR hx) i1), fun g g0 g1 h88 h93 h5 L t w hv => ?_⟩
        by_cases q : g = f
        · subst q
          have e := (k_hd_eL h88 hy).2
          exact vd_mo i1 (k_ck_vd h88 _ _ _ _ _ _ hx L t w _ hv e (by omega))
        · exact i2 g (by omega) (by omega) h88 h93 h5 L t w hv
theorem k_ch_vd {M : Nat → Int → Int} {fs : Nat} {N : Int → Nat} {s s' : k_s} (h : k_ch M fs N s = .inr s') (g : Int) (g0 : 0 ≤ g) (g1 : g < fs) (h88 : 0 ≤ M 88 g) (h93 : 0 ≤ M 93 g ∧ M 93 g ≤ 5) {L : Nat} {t w : Int} (hv : vn M L (M 95 g) t w) : vd M s'.2.2.2 L (M 95 g) (M 93 g).toNat := by
  unfold k_ch at h
  split at h
  · cases h
  · exact (k_c2_vd h).2 g g0 (by omega) h88 h93.1 h93.2 L t w hv
/-- the reference's code is the class's -/
theorem jC_pw {M0 M1 : Nat → Int → Int} {tr : Nat → c_t} {fs g L : Nat} {nf : Int → Int} (h88 : 0 ≤ M0 88 g) (hC : jC fs tr M0 L g M1 nf) : ∀ m : Nat, M0 95 g < m → ∀ p, c_em (M1 ((tr g).1 + 175)) L ((tr g).2.1 10) p = k_em M0 fs nf m (k_pw M0 g (M0 93 g).toNat) (M0 95 g) p := by
  obtain ⟨sh, y, hy, hk⟩ := hC
  rw [← (k_hd_eL h88 hy).1]
  exact hk

/-! A RUN OF AN ACCEPTED PROGRAM GOES WELL -/
/-- how it ends -/
def zE (row : Prop) (S : m_T) : Prop := S 6 0 = 1 ∧ (row → (0 ≤ S 0 0 ∧ 0 ≤ S 4 (S 0 0)) ∧ S 0 0 + 1 + S 4 (S 0 0) ≤ S 6 2)
theorem run_good {M0 : Nat → Int → Int} {fs how f tk n : Int} {cd : Int → Int → Option (Int × Int)} {pn nf nu : Int → Int} {A B C p fn nx lo ce pr : Int → Int} (hfs : fs ≤ 8) (hF : ∀ g, 0 ≤ g → g < fs → fOK M0 fs how cd pn nf g) (hf : 0 ≤ f ∧ f < fs) (hfit : fitM M0 A B nu f) (hnu : ∀ j, 0 ≤ j → j < M0 93 f → nu (M0 91 (5 * f + j)) = B j) (hA : sAB A B) (hn : n = M0 93 f) (hn5 : 0 ≤ n ∧ n ≤ 5) (hb : bg A B C ce lo n.toNat) (ht : tk = bP A B n.toNat) (h1 : fn 0 = f) (h2 : nx 0 = 0) (k : Nat) : m_G cd pn (zE (M0 113 (M0 94 f) = 3)) k (sT p fn nx lo ce pr tk n) := by
  obtain ⟨f1, f2, f3⟩ := hfit
  refine sd_body (c := 1) (h := 0) (Hd := hBg A B n.toNat) (sd_all hfs hF k) (hF f hf.1 hf.2) f2 (fun j j0 j1 => by rw [hnu j j0 j1]; exact f3 j j0 j1) (fun j j0 j1 => ?_) (sT_hI hA (by omega) hb ht) (sT_mV h1 h2) (fun k' hk' S' Hd' x hv hc hq hg hI' hr hs => ?_)
  · rw [hnu j j0 j1]
    have e0 : 16 * ((1 : Int) - 1) + j = j := by omega
    rw [e0]
    have a := f1 j j0 j1
    obtain ⟨jj, rfl⟩ : ∃ jj : Nat, j = jj := ⟨j.toNat, by omega⟩
    obtain ⟨g1, g2⟩ := hb jj (by omega)
    refine ⟨?_, sT_7.mpr (by omega)⟩
    show vO _ _ _ (lo jj) (B jj)
    rw [← a, g1]
    refine ⟨fun z => ?_, fun z => by rw [if_neg z]⟩
    rw [if_pos z]
    exact ⟨⟨jj, by omega, z, rfl⟩, (g2 z).1⟩
  · refine gd_22 hv hc (fun _ _ z => by omega) (fun _ S2 s1 s2 s3 s4 s5 => ⟨by rw [s1]; rfl, fun z => ?_⟩)
    rw [s2, s3, s4]
    obtain ⟨q1, -⟩ := hr z
    obtain ⟨w1, w2, w3⟩ := hI'.2.1 _ q1
    exact ⟨⟨w1, w2⟩, w3⟩

/-! BOTH MACHINES BEGIN ALIKE -/
section
variable {M M1 N1 : Nat → Int → Int} {f n : Int}
theorem iv_AB (h : iv_s M) : sAB (M 161) (M 162) := fun i i0 i1 => by
  obtain ⟨-, -, h3, h4, h5⟩ := h.1 i i0 i1
  exact ⟨h3, h4, fun z => (h5 z).1⟩
theorem iv_AB2 (h : iv_s M) : ∀ i, 0 ≤ i → i < 6 → M 43 i = M 161 i ∧ M 44 i = M 162 i := fun i i0 i1 => ⟨(h.1 i i0 i1).1, (h.1 i i0 i1).2.1⟩
theorem iv_AB' (h : iv_s M) : sAB (M 43) (M 44) := fun i i0 i1 => by
  obtain ⟨e1, e2⟩ := iv_AB2 h i i0 i1
  rw [e1, e2]
  exact iv_AB h i i0 i1
theorem iv_C (h : iv_s M) : ∀ i : Nat, i < 6 → M 161 i = 1 → ∀ k, 0 ≤ k → k < M 162 i → M 45 (40 * i + k) = M 163 (40 * i + k) ∧ i_num (M 163 (40 * i + k)) := fun i hi r k k0 k1 => (((h.1 i (by omega) (by omega)).2.2.2.2 r).2 k k0 k1)
theorem iv_C' (h : iv_s M) : ∀ i : Nat, i < 6 → M 43 i = 1 → ∀ k, 0 ≤ k → k < M 44 i → i_num (M 45 (40 * i + k)) := fun i hi r k k0 k1 => by
  obtain ⟨e1, e2⟩ := iv_AB2 h i (by omega) (by omega)
  obtain ⟨g1, g2⟩ := iv_C h i hi (by rw [← e1]; exact r) k k0 (by rw [← e2]; exact k1)
  rw [g1]
  exact g2
theorem al_bS (hs : iv_s M) (hn5 : 0 ≤ n ∧ n ≤ 5) (b4 : bg (M 43) (M 44) (M 45) (M1 48) (M1 50) n.toNat) (b3 : M1 54 7 = bP (M 43) (M 44) n.toNat) (c5 : bg (M 161) (M 162) (M 163) (N1 165) (N1 169) n.toNat) (c3 : N1 81 126 = bP (M 161) (M 162) n.toNat) (hf : N1 167 0 = f) (hx : N1 168 0 = 0) : bS (sS N1 n) (sV M1 f n) := by
  have ab := iv_AB2 hs
  have b4' := sV_bg (by omega) (bg_c ab (by omega) b4)
  have e := bP_c ab n.toNat (by omega)
  obtain ⟨g1, g2⟩ := bg_eq (iv_AB hs) (by omega) c5 b4' (fun i hi r k k0 k1 => (iv_C hs i hi r k k0 k1).1)
  have et : M1 54 7 = N1 81 126 := by rw [b3, c3, e]
  unfold sS sV
  rw [et]
  refine sT_bS hf.symm hx.symm (fun j j0 j1 => ?_) (fun j j0 j1 => g1 j j0 (by rw [← c3]; exact j1))
  obtain ⟨jj, rfl⟩ : ∃ jj : Nat, j = jj := ⟨j.toNat, by omega⟩
  exact g2 jj (by omega)
end

/-! CHECK on both sides -/
theorem k_c1_neg {M : Nat → Int → Int} : ∀ {n : Nat} {f : Int} {s : k_s} {c a g : Int}, k_c1 M f n s = .inl (c, a, g) → c < 0
  | 0, _, _, _, _, _, h => by cases h
  | n + 1, f, s, c, a, g, h => by
    unfold k_c1 at h
    split at h
    · rename_i z hz
      cases h
      exact k_hd_neg hz
    · exact k_c1_neg h
theorem k_c2_neg {M : Nat → Int → Int} {fs : Int} {N : Int → Nat} : ∀ {n : Nat} {f : Int} {s : k_s} {c a g : Int}, (∀ g, f ≤ g → g < f + n → ∃ (L : Nat) (t w : Int), 2 * (L : Int) ≤ N g ∧ vn M L (M 95 g) t w) → k_c2 M fs N f n s = .inl (c, a, g) → c < 0
  | 0, _, _, _, _, _, _, h => by cases h
  | n + 1, f, s, c, a, g, hv, h => by
    unfold k_c2 at h
    split at h
    · rename_i z hz
      cases h
      exact k_hd_neg hz
    · split at h
      · rename_i z hz
        cases h
        obtain ⟨L, t, w, l1, l2⟩ := hv f (Int.le_refl _) (by omega)
        exact k_ck_neg L (N f) _ _ t w _ _ (by show 2 * (L : Int) ≤ N f + 0; omega) l2 hz
      · exact k_c2_neg (fun g g0 g1 => hv g (by omega) (by omega)) h
theorem k_ch_neg {M : Nat → Int → Int} {fs : Nat} {N : Int → Nat} {s : k_s} {c a g : Int} (hv : ∀ g : Int, 0 ≤ g → g < fs → ∃ (L : Nat) (t w : Int), 2 * (L : Int) ≤ N g ∧ vn M L (M 95 g) t w) (h : k_ch M fs N s = .inl (c, a, g)) : c < 0 := by
  unfold k_ch at h
  split at h
  · rename_i z hz
    cases h
    exact k_c1_neg hz
  · exact k_c2_neg (fun g g0 g1 => hv g g0 (by omega)) h
/-- the reference answers v, and all holds that must hold between calls -/
def cV (eX : Nat → Nat × (Nat → Int32)) (t v : Int) (s2 : xs) : Prop := ∀ d, xm_call tb_P eX tb_K0 174 (d + 23) 61 [.inr (.inr (some 82))] s2 (fun oo s' => oo = .inl (some (.inl v)) ∧ iv s' ∧ nP s' ∧ rm t s')
/-- what check leaves of the class's cells, from 0 to 173 -/
def ckK (p : Nat) : Prop := p < 8 ∨ p = 16 ∨ (32 < p ∧ p ≠ 35 ∧ p < 174)
theorem jG_K {fs : Nat} {tr : Nat → c_t} {e : Nat} {ow : Nat → Int} {M M' : Nat → Int → Int} {R R' : Nat → Int → Option Nat} (h : jG fs tr e ow M R M' R') {p : Nat} (hp : ckK p) : M' p = M p := h.1 p ⟨by unfold ckK at hp; omega, fun _ => by unfold ckK at hp; omega, fun q => by unfold ckK at hp; omega⟩ (fun k _ => by unfold ckK at hp; omega)
section
variable {ρ : Nat → Option xk} {e sl d : Nat} {M : Nat → Int → Int} {R : Nat → Int → Option Nat} {eX : Nat → Nat × (Nat → Int32)} {Q : xK}
variable {t : Int} {fs : Nat}
/-- what check needs of the functions -/
theorem ck_fn (hf : fnP (ρ, e, M, R, sl)) (h8 : fs ≤ 8) (h9 : M 0 9 = fs) : (∀ g : Nat, g < fs → 2 * M 95 g + 2 ≤ ((2 * (M 95 g).toNat + 2 : Nat) : Int)) ∧ (∀ g, g < fs → jH (trS M R) M 60 g) ∧ ∀ g : Int, 0 ≤ g → g < fs → vF M g ∧ 0 ≤ M 95 g ∧ ∃ t w, vn M ((M 95 g).toNat + 1) (M 95 g) t w ∧ t ≤ 689 ∧ w ≤ 290 := by
  refine ⟨fun g hg => by omega, fun g hg => ?_, fun g g0 g1 => ?_⟩
  · obtain ⟨-, -, -, -, a5, a6⟩ := trS_of hf (by omega) (g := g) (by omega)
    exact jH_of a5.2 a6
  · obtain ⟨-, -, -, -, a5, a6⟩ := trS_of hf (by omega) (g := g.toNat) (by omega)
    have e : ((g.toNat : Nat) : Int) = g := by omega
    rw [e] at a6
    exact rV_of (by omega) a5.2 a6
end

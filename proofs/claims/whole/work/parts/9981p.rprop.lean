/-! THE REFERENCE: props, one after the other -/
def k_adds (ad : (Int → Int) → k_s → k_o k_s) : List (Int → Int) → k_s → k_o k_s
  | [], s => .inr s
  | h :: l, s => k_b (ad h s) (k_adds ad l)
theorem k_adds_f {pl : Int} : ∀ {l : List (Int → Int)} {s : k_s}, k_adds (k_af pl) l s = k_afs pl l s
  | [], _ => rfl
  | h :: l, s => by
    show k_b (k_af pl h s) (k_adds (k_af pl) l) = k_b (k_af pl h s) (k_afs pl l)
    congr 1
    funext s1
    exact k_adds_f
theorem k_adds_g {f pl sort : Int} : ∀ {l : List (Int → Int)} {s : k_s}, k_adds (k_ag f pl sort) l s = k_ags f pl sort l s
  | [], _ => rfl
  | h :: l, s => by
    show k_b (k_ag f pl sort h s) (k_adds (k_ag f pl sort) l) = k_b (k_ag f pl sort h s) (k_ags f pl sort l)
    congr 1
    funext s1
    exact k_adds_g
noncomputable def k_ip (M : Nat → Int → Int) (E : k_E) (iw cp : Int) (hv : Int → Int) (ad : (Int → Int) → k_s → k_o k_s) : Int → Nat → k_s → k_o k_s
  | _, 0, s => .inr s
  | p, n + 1, s => k_b (k_xx M E iw cp (M 110 p)) (fun a => k_b (k_xx M E iw cp (M 112 p)) (fun b => k_b (k_adds ad (k_pd (M 111 p) (k_p (k_p b.1 a.1 (-1)) hv (b.2 - a.2))) s) (k_ip M E iw cp hv ad (p + 1) n)))
/-- an index of the reference's tables -/
def vx (M : Nat → Int → Int) (x : Int) : Prop := (0 ≤ x ∧ x < 2340) ∧ (0 ≤ M 107 x ∧ M 107 x + M 108 x ≤ 4500 ∧ 0 ≤ M 108 x ∧ M 108 x ≤ 500) ∧ ∀ i, M 107 x ≤ i → i < M 107 x + M 108 x → -999 ≤ M 104 i ∧ M 104 i ≤ 999
def vp (M : Nat → Int → Int) (p : Int) (n : Nat) : Prop := ∀ i, p ≤ i → i < p + n → (0 ≤ i ∧ i < 1800) ∧ (0 ≤ M 111 i ∧ M 111 i ≤ 4) ∧ vx M (M 110 i) ∧ vx M (M 112 i)
/-- names are small and speak of variables that there are -/
def eW (v : Int) (E : k_E) : Prop := ∀ y ∈ E, k_in 1000000 y.2.2 0 ∧ ∀ k, v ≤ k → k < 24 → y.2.2 k = 0
theorem k_fd_m {w : Int} {y : Int × (Int → Int)} : ∀ {E : k_E}, k_fd w E = some y → ∃ c, (c, y) ∈ E
  | [], h => by cases h
  | x :: l, h => by
    unfold k_fd at h
    split at h
    · cases h
      exact ⟨x.1, List.mem_cons_self ..⟩
    · obtain ⟨c, hc⟩ := k_fd_m h
      exact ⟨c, List.mem_cons_of_mem _ hc⟩
theorem k_ix_z {v iw : Int} {E : k_E} (hE : eW v E) : ∀ {L : List (Int × Int × Int)} {h : Int → Int} {z : Int} {y : (Int → Int) × Int}, (∀ k, v ≤ k → k < 24 → h k = 0) → k_ix E iw L h z = .inr y → (∀ k, v ≤ k → k < 24 → y.1 k = 0) ∧ (iw = 0 → y.2 = z)
  | [], h, z, y, hz, hs => by
    cases hs
    exact ⟨hz, fun _ => rfl⟩
  | t :: l, h, z, y, hz, hs => by
    have hs : (if t.2.1 = 0 then k_ix E iw l (k_p h (k_n 1) t.1) z else if t.2.1 = iw then k_ix E iw l h (z + t.1) else match k_fd t.2.1 E with
      | none => .inl (-5, t.2.2)
      | some x => if x.1 = 2 then .inl (-6, t.2.2) else k_ix E iw l (k_p h x.2 t.1) z) = .inr y := hs
    by_cases h0 : t.2.1 = 0
    · rw [if_pos h0] at hs
      refine k_ix_z hE (fun k a b => ?_) hs
      show h k + t.1 * (if k = 24 then 1 else 0) = 0
      rw [hz k a b, if_neg (by omega)]
      omega
    · rw [if_neg h0] at hs
      by_cases h1 : t.2.1 = iw
      · rw [if_pos h1] at hs
        have := k_ix_z hE hz hs
        exact ⟨this.1, fun q => absurd (h1.trans q) h0⟩
      · rw [if_neg h1] at hs
        rcases hf : k_fd t.2.1 E with _ | x
        · rw [hf] at hs
          cases hs
        · rw [hf] at hs
          have hs : (if x.1 = 2 then .inl (-6, t.2.2) else k_ix E iw l (k_p h x.2 t.1) z) = .inr y := hs
          by_cases h2 : x.1 = 2
          · rw [if_pos h2] at hs
            cases hs
          · rw [if_neg h2] at hs
            obtain ⟨c, hc⟩ := k_fd_m hf
            refine k_ix_z hE (fun k a b => ?_) hs
            show h k + t.1 * x.2 k = 0
            have := (hE _ hc).2 k a b
            dsimp only at this
            rw [hz k a b, this]
            omega
theorem k_xx_z {M : Nat → Int → Int} {v iw cp x : Int} {E : k_E} {y : (Int → Int) × Int} (hE : eW v E) (hs : k_xx M E iw cp x = .inr y) : (∀ k, v ≤ k → k < 24 → y.1 k = 0) ∧ (iw = 0 → y.2 = 0) ∧ k_in 1000000 y.1 y.2 := by
  unfold k_xx k_ih at hs
  rcases h : k_ix E iw (k_tl M (M 107 x) (M 108 x).toNat) k_0 0 with a | a
  · rw [h] at hs
    cases hs
  · rw [h] at hs
    have hs : k_if (k_in 1000000 a.1 a.2) (.inr a) (.inl (-8, if 0 ≤ cp then cp else M 109 x)) = (.inr y : k_o ((Int → Int) × Int)) := hs
    have hz := k_ix_z hE (fun k _ _ => rfl) h
    by_cases hin : k_in 1000000 a.1 a.2
    · rw [k_if_t hin] at hs
      cases hs
      exact ⟨hz.1, hz.2, hin⟩
    · rw [k_if_f hin] at hs
      cases hs
theorem k_mul_in {f a : Int} (hf : -1000000 ≤ f ∧ f ≤ 1000000) (ha : -1000000 ≤ a ∧ a ≤ 1000000) : -1000000000000 ≤ f * a ∧ f * a ≤ 1000000000000 := by
  have h1 : a.natAbs ≤ 1000000 := by omega
  have h2 : f.natAbs ≤ 1000000 := by omega
  have hm := Nat.mul_le_mul h2 h1
  have he := Int.natAbs_mul f a
  omega
/-- a row and z times another -/
theorem k_B_p {a hv : Int → Int} {z : Int} (ha : k_in 1000000 a z) (hh : k_in 1000000 hv 0) : k_B (k_p a hv z) := fun k k0 k1 => by
  have h1 := ha.1 k k0 k1
  have h2 := k_mul_in ⟨ha.2.1, ha.2.2⟩ (hh.1 k k0 k1)
  show -1000000000000000 ≤ a k + z * hv k ∧ a k + z * hv k ≤ 1000000000000000
  omega
theorem k_gap {a b hv : Int → Int} {za zb : Int} : k_p (k_p b hv zb) (k_p a hv za) (-1) = k_p (k_p b a (-1)) hv (zb - za) := by
  funext k
  show (b k + zb * hv k) + -1 * (a k + za * hv k) = (b k + -1 * a k) + (zb - za) * hv k
  rw [Int.sub_mul]
  omega
theorem k_z_gap {v : Int} {a b hv : Int → Int} {za zb : Int} (ha : k_in 1000000 a za) (hb : k_in 1000000 b zb) (hh : k_in 1000000 hv 0) (za0 : ∀ k, v ≤ k → k < 24 → a k = 0) (zb0 : ∀ k, v ≤ k → k < 24 → b k = 0) (zh0 : ∀ k, v ≤ k → k < 24 → hv k = 0) (hz : -1000000 ≤ zb - za ∧ zb - za ≤ 1000000 ∨ True) : (∀ k, 0 ≤ k → k < 25 → -100000000000000 ≤ k_p (k_p b a (-1)) hv (zb - za) k ∧ k_p (k_p b a (-1)) hv (zb - za) k ≤ 100000000000000) ∧ ∀ k, v ≤ k → k < 24 → k_p (k_p b a (-1)) hv (zb - za) k = 0 := by
  refine ⟨fun k k0 k1 => ?_, fun k k0 k1 => ?_⟩
  · have h1 := ha.1 k k0 k1
    have h2 := hb.1 k k0 k1
    have h3 := k_mul_in ⟨ha.2.1, ha.2.2⟩ (hh.1 k k0 k1)
    have h4 := k_mul_in ⟨hb.2.1, hb.2.2⟩ (hh.1 k k0 k1)
    show -100000000000000 ≤ (b k + -1 * a k) + (zb - za) * hv k ∧ (b k + -1 * a k) + (zb - za) * hv k ≤ 100000000000000
    rw [Int.sub_mul]
    omega
  · show (b k + -1 * a k) + (zb - za) * hv k = 0
    rw [za0 k k0 k1, zb0 k k0 k1, zh0 k k0 k1]
    omega
/-- rows that a relation says of a gap -/
theorem k_pd_z {v r : Int} {g : Int → Int} (hg : (∀ k, 0 ≤ k → k < 25 → -100000000000000 ≤ g k ∧ g k ≤ 100000000000000) ∧ ∀ k, v ≤ k → k < 24 → g k = 0) : ∀ w ∈ k_pd r g, k_z v w := by
  have m1 : k_z v (k_m g (-1)) := ⟨fun k k0 k1 => by have := hg.1 k k0 k1; show _ ≤ -1 * g k ∧ -1 * g k ≤ _; omega, fun k k0 k1 => by show -1 * g k = 0; rw [hg.2 k k0 k1]; rfl⟩
  have m0 : k_z v g := ⟨fun k k0 k1 => by have := hg.1 k k0 k1; omega, hg.2⟩
  have d0 : ∀ u : Int → Int, (∀ k, 0 ≤ k → k < 25 → -100000000000000 ≤ u k ∧ u k ≤ 100000000000000) → (∀ k, v ≤ k → k < 24 → u k = 0) → k_z v (k_p u (k_n 1) (-1)) := fun u u1 u2 => ⟨fun k k0 k1 => by
    have := u1 k k0 k1
    show _ ≤ u k + -1 * (if k = 24 then 1 else 0) ∧ u k + -1 * (if k = 24 then 1 else 0) ≤ _
    split <;> omega, fun k k0 k1 => by
    show u k + -1 * (if k = 24 then 1 else 0) = 0
    rw [u2 k k0 k1, if_neg (by omega)]
    rfl⟩
  intro w hw
  unfold k_pd at hw
  split at hw
  · rcases List.mem_cons.mp hw with rfl | hw
    · exact m0
    · rcases List.mem_cons.mp hw with rfl | hw
      · exact m1
      · cases hw
  · split at hw
    · rcases List.mem_cons.mp hw with rfl | hw
      · exact d0 g hg.1 hg.2
      · cases hw
    · split at hw
      · rcases List.mem_cons.mp hw with rfl | hw
        · exact m0
        · cases hw
      · split at hw
        · rcases List.mem_cons.mp hw with rfl | hw
          · exact d0 (k_m g (-1)) (fun k k0 k1 => by have := hg.1 k k0 k1; show _ ≤ -1 * g k ∧ -1 * g k ≤ _; omega) m1.2
          · cases hw
        · rcases List.mem_cons.mp hw with rfl | hw
          · exact m1
          · cases hw
/-- what going through props changes -/
def fH (M M' : Nat → Int → Int) : Prop := (∀ x, x ≠ 81 → (x < 128 ∨ 134 < x) → (x < 141 ∨ 146 < x) → M' x = M x) ∧ ∀ j, j ≠ 62 → j ≠ 77 → j ≠ 93 → j ≠ 96 → j ≠ 98 → j ≠ 101 → M' 81 j = M 81 j
def fHx (M M' : Nat → Int → Int) : Prop := (∀ x, x ≠ 81 → (x < 128 ∨ 134 < x) → (x < 141 ∨ 146 < x) → M' x = M x) ∧ ∀ j, j ≠ 62 → j ≠ 77 → j ≠ 93 → j ≠ 96 → j ≠ 98 → j ≠ 101 → j ≠ 74 → j ≠ 7 → j ≠ 66 → M' 81 j = M 81 j
theorem fH_rf {M : Nat → Int → Int} : fH M M := ⟨fun _ _ _ _ => rfl, fun _ _ _ _ _ _ _ => rfl⟩
theorem fH_tr {M M1 M2 : Nat → Int → Int} (h1 : fH M M1) (h2 : fH M1 M2) : fH M M2 := ⟨fun x a b c => (h2.1 x a b c).trans (h1.1 x a b c), fun j a b c d e f => (h2.2 j a b c d e f).trans (h1.2 j a b c d e f)⟩
theorem fH_x {M M1 M2 : Nat → Int → Int} (h1 : fH M M1) (h2 : fHx M1 M2) : fHx M M2 := ⟨fun x a b c => (h2.1 x a b c).trans (h1.1 x a b c), fun j a b c d e f g h i => (h2.2 j a b c d e f g h i).trans (h1.2 j a b c d e f)⟩
theorem qX_H {w a : Int} {M M1 M2 : Nat → Int → Int} (h1 : fH M M1) (h2 : qX w a M1 M2) : qX w a M M2 := ⟨h2.1, h2.2.1, by rw [h2.2.2]; exact h1.2 75 (by decide) (by decide) (by decide) (by decide) (by decide) (by decide)⟩
theorem qE_H {M M' : Nat → Int → Int} {b : Int} {E : k_E} (h : fH M M') (hq : qE M b E) : qE M' b E := qE_fr (fun q j q1 _ => by rw [h.1 q (by omega) (by omega) (by omega)]) (fun j _ => by rw [h.1 137 (by decide) (by decide) (by decide)]) hq
/-- tables that indexes and props stand in -/
def fTb (M M' : Nat → Int → Int) : Prop := ∀ x, 104 ≤ x → x ≤ 112 → M' x = M x
theorem k_xx_T {M M' : Nat → Int → Int} {E : k_E} {iw cp x : Int} (h : fTb M M') : k_xx M' E iw cp x = k_xx M E iw cp x := by
  have ht : ∀ (n : Nat) (a : Int), k_tl M' a n = k_tl M a n := by
    intro n
    induction n with
    | zero => intro a; rfl
    | succ n ih =>
      intro a
      show (M' 104 a, M' 105 a, M' 106 a) :: k_tl M' (a + 1) n = (M 104 a, M 105 a, M 106 a) :: k_tl M (a + 1) n
      rw [ih, h 104 (by decide) (by decide), h 105 (by decide) (by decide), h 106 (by decide) (by decide)]
  unfold k_xx
  rw [h 107 (by decide) (by decide), h 108 (by decide) (by decide), h 109 (by decide) (by decide), ht]
theorem vx_T {M M' : Nat → Int → Int} {x : Int} (h : fTb M M') (hv : vx M x) : vx M' x := by
  unfold vx
  rw [h 107 (by decide) (by decide), h 108 (by decide) (by decide), h 104 (by decide) (by decide)]
  exact hv
theorem k_ip_T {M M' : Nat → Int → Int} {E : k_E} {iw cp : Int} {hv : Int → Int} {ad : (Int → Int) → k_s → k_o k_s} (h : fTb M M') : ∀ {n : Nat} {p : Int} {s : k_s}, k_ip M' E iw cp hv ad p n s = k_ip M E iw cp hv ad p n s
  | 0, _, _ => rfl
  | n + 1, p, s => by
    show k_b (k_xx M' E iw cp (M' 110 p)) _ = k_b (k_xx M E iw cp (M 110 p)) _
    rw [h 110 (by decide) (by decide), k_xx_T h]
    congr 1
    funext a
    show k_b (k_xx M' E iw cp (M' 112 p)) _ = k_b (k_xx M E iw cp (M 112 p)) _
    rw [h 112 (by decide) (by decide), k_xx_T h]
    congr 1
    funext b
    rw [h 111 (by decide) (by decide)]
    congr 1
    funext s1
    exact k_ip_T h

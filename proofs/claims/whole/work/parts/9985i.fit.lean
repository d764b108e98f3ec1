/-! DO SLOTS FIT? for a function of an accepted program -/
section
variable {M0 M : Nat → Int → Int} {f n : Int} {ρ : Nat → Option xk} {R : Nat → Int → Option Nat} {q : Nat}
/-- what the header asks of slots, on the tables -/
def fitM (M0 : Nat → Int → Int) (A B nu : Int → Int) (f : Int) : Prop := (∀ j, 0 ≤ j → j < M0 93 f → A j = if M0 113 (M0 92 (5 * f + j)) = 3 then 1 else 0) ∧ pH M0 nu 0 0 (M0 89 f) (M0 90 f).toNat ∧ ∀ j, 0 ≤ j → j < M0 93 f → tS M0 nu (M0 92 (5 * f + j)) (B j)
theorem fKd_c {A B : Int → Int} : ∀ {P : List ((Int × Int) × z_T)} {j : Int}, (∀ i, j ≤ i → i < j + P.length → A i = B i) → (fKd A j P ↔ fKd B j P)
  | [], _, _ => Iff.rfl
  | y :: l, j, h => by
    rw [List.length_cons] at h
    have ih := fKd_c (P := l) (j := j + 1) (fun i a c => h i (by omega) (by omega))
    show (A j = _ ∧ _) ↔ (B j = _ ∧ _)
    rw [h j (by omega) (by omega), ih]
theorem fVd_c {A B nu : Int → Int} : ∀ {P : List ((Int × Int) × z_T)} {j : Int}, (∀ i, j ≤ i → i < j + P.length → A i = B i) → (fVd A nu j P ↔ fVd B nu j P)
  | [], _, _ => Iff.rfl
  | y :: l, j, h => by
    rw [List.length_cons] at h
    have ih := fVd_c (nu := nu) (P := l) (j := j + 1) (fun i a c => h i (by omega) (by omega))
    show (tL nu y.2 (A j) ∧ _) ↔ (tL nu y.2 (B j) ∧ _)
    rw [h j (by omega) (by omega), ih]
theorem fit_ok {s : k_s} {y : k_E × k_s × k_h} (hc : c_T ρ R q) (hz : M (q + 174) 1 ≤ 500) (hR : fR f (mf f M0) (M (q + 175)) (fun j => M (q + 174) j) (M (q + 174) 1)) (hy : dY n M0 M) (hf : 0 ≤ f ∧ f < n) (hn : n ≤ 8) (hd : dNf M0 f) (hk : k_hd M0 f s = .inr y) (hs : iv_s M) : ∃ (nu : Int → Int) (L : List z_p) (P : List ((Int × Int) × z_T)) (N : List (Int × Int)),
    ((∀ k, 0 ≤ k → k < M0 88 f → nu (M0 87 (4 * f + k)) = M 164 k) ∧ ∀ j, 0 ≤ j → j < M0 93 f → nu (M0 91 (5 * f + j)) = M 162 j)
    ∧ (fitP (M 161) (M 162) nu L P ↔ fitM M0 (M 161) (M 162) nu f) ∧ (fitP (M 43) (M 44) nu L P ↔ fitM M0 (M 161) (M 162) nu f)
    ∧ (sB M f ∧ M 90 f = L.length ∧ (0 ≤ M 89 f ∧ M 89 f + L.length ≤ 1600) ∧ pB M f 0 nu (M 89 f) L ∧ M 93 f = P.length ∧ tBd M f nu (5 * f) P)
    ∧ tN ρ M R q (M (q + 174) 1) (M (q + 175)) N P ∧ psC (M (q + 175)) 1 (M (q + 174) 1) (M (q + 174) 6) L ∧ pC M N P 0 0 nu L ∧ ∀ y ∈ P, tC M N P nu y.2 := by
  obtain ⟨N, L, P, x, -, ⟨-, n2, n3, n4, n5, n6⟩, ⟨l1, l2, l3, l4, l5, l6⟩, ⟨-, p2, p3, p4, p5, p6⟩, -, -, -⟩ := hR
  rw [mf_ne (by decide)] at n2 l1 l4 l6 p2
  dsimp only at n4 l3 p4
  have L0 := psQ_F l4 l5
  have P0 := paR_F p5 p6
  have N0 : nmR M0 87 (4 * f) N := nmR_fr (fun i _ _ => by rw [mf_ne (by decide)]) n5
  have L1 := psF_y hy hf L0
  have P1 := paF_y hy hf (by omega) P0
  obtain ⟨nu, nA, nB⟩ := nu_of hd (by omega) (by omega) (M 164) (M 162)
  obtain ⟨kn1, kn2⟩ := k_hd_D hk (by omega) l1 L0 p2 P0
  obtain ⟨⟨y1, y2, y3⟩, -⟩ := id hy
  have e88 := y1 88 f (by decide) (by decide) (by decide) (by decide) (by decide) (by omega)
  have e89 := y1 89 f (by decide) (by decide) (by decide) (by decide) (by decide) (by omega)
  have e90 := y1 90 f (by decide) (by decide) (by decide) (by decide) (by decide) (by omega)
  have e93 := y1 93 f (by decide) (by decide) (by decide) (by decide) (by decide) (by omega)
  have e87 : ∀ i, 0 ≤ i → i < 4 → M 87 (4 * f + i) = M0 87 (4 * f + i) := fun i a b => y2 _ (by omega)
  have e91 : ∀ i, 0 ≤ i → i < 5 → M 91 (5 * f + i) = M0 91 (5 * f + i) := fun i a b => y3 91 _ (.inl rfl) (by omega)
  obtain ⟨s1, s2⟩ := hs
  have v46 : ∀ k, 0 ≤ k → k < 4 → M 46 k = M 164 k := fun k a b => (s2 k a b).1
  have v44 : ∀ k, 0 ≤ k → k < 6 → M 44 k = M 162 k := fun k a b => (s1 k a b).2.1
  have v43 : ∀ k, 0 ≤ k → k < 6 → M 43 k = M 161 k := fun k a b => (s1 k a b).1
  have i46 : ∀ k, 0 ≤ k → k < 4 → i_num (M 164 k) := fun k a b => (s2 k a b).2
  have i44 : ∀ k, 0 ≤ k → k < 6 → i_num (M 162 k) := fun k a b => (s1 k a b).2.2.2.1
  have D1 : ∀ w, nmD M0 f w → nmD M f w := fun w h => by
    rcases h with ⟨k, k0, k1, k2⟩ | ⟨k, k0, k1, k2⟩
    · exact .inl ⟨k, k0, by omega, by rw [e87 k k0 (by omega)]; exact k2⟩
    · exact .inr ⟨k, k0, by omega, by rw [e91 k k0 (by omega)]; exact k2⟩
  have mA : ∀ i, 0 ≤ i → i < M 88 f → nu (M 87 (4 * f + i)) = M 164 i := fun i a b => by rw [e87 i a (by omega)]; exact nA i a (by omega)
  have mB : ∀ i, 0 ≤ i → i < M 93 f → nu (M 91 (5 * f + i)) = M 162 i := fun i a b => by rw [e91 i a (by omega)]; exact nB i a (by omega)
  have w1 : ∀ iw L, kL M0 f iw L → kWd M f iw nu L := fun iw L h t ht a b => by
    rcases h t ht with c | c | c
    · exact absurd c a
    · exact absurd c b
    · exact rW_nu (by omega) (by omega) mA mB (D1 _ c)
  have N1 : nmR M 87 (4 * f) N := nmR_fr (fun i a b => y2 i (by omega)) N0
  have w2 : ∀ iw iw' L, (iw = 0 ∧ iw' = 0 ∨ w_w iw' iw) → (∀ t ∈ L, z_tk t) → kL M0 f iw L → kWc M N P iw iw' nu L := fun iw iw' L hi hz h t ht a => by
    have ww : w_w t.2.1 t.2.2.1 := by
      rcases (hz t ht).2 with c | c
      · exact absurd c.1 a
      · exact c
    have wp := w_w_pos ww
    refine ⟨?_, fun b => ?_⟩
    · rcases hi with ⟨rfl, rfl⟩ | hi
      · exact ⟨fun z => by omega, fun z => by omega⟩
      · exact w_w_eq ww hi
    · rcases h t ht with c | c | c
      · omega
      · exact absurd c b
      · exact cW_nu ww (by omega) (by omega) N1 n6 P1 (fun i u v => by rw [v46 i u (by omega)]; exact mA i u v) (fun i u v => by rw [v44 i u (by omega)]; exact mB i u v) (D1 _ c)
  have fitE : fitP (M 161) (M 162) nu L P ↔ fitM M0 (M 161) (M 162) nu f := by
    have P0' : paF f M0 (5 * f + 0) P := by rw [Int.add_zero]; exact P0
    unfold fitP fitM
    rw [fKd_F P0', fVd_F P0', l1, Int.toNat_natCast, pH_F L0, p2, Int.zero_add]
  have lenX : ∀ {x : Int} {Lx : List z_t}, ixF f M0 x Lx → Lx.length ≤ 4000 := fun {x Lx} h => by have := h.2.2.2.1; omega
  have pCF : ∀ (Lp : List z_p) (i iw iw' : Int), psF f M0 i Lp → (iw = 0 ∧ iw' = 0 ∨ w_w iw' iw) → (∀ x ∈ Lp, kL M0 f iw x.2.2.1 ∧ kL M0 f iw x.2.2.2.1) → pC M N P iw iw' nu Lp := by
    intro Lp
    induction Lp with
    | nil => intro i iw iw' _ _ _ x hx; cases hx
    | cons u l ih =>
      intro i iw iw' ⟨⟨h0, h1, ⟨h2, h2'⟩, h3⟩, h4⟩ hi hk x hx
      rcases List.mem_cons.mp hx with rfl | hx
      · obtain ⟨k1, k2⟩ := hk x List.mem_cons_self
        exact ⟨h2', ⟨h1.2.2.2.2, w2 iw iw' _ hi h1.2.2.2.2 k1, lenX h1⟩, h3.2.2.2.2, w2 iw iw' _ hi h3.2.2.2.2 k2, lenX h3⟩
      · exact ih (i + 1) iw iw' h4 hi (fun z hz => hk z (List.mem_cons_of_mem _ hz)) x hx
  have tCF : ∀ (Pp : List ((Int × Int) × z_T)) (b : Int), paF f M0 b Pp → (∀ z ∈ Pp, tK M0 f z.2) → ∀ z ∈ Pp, tC M N P nu z.2 := by
    intro Pp
    induction Pp with
    | nil => intro b _ _ z hz; cases hz
    | cons u l ih =>
      intro b ⟨⟨_, h2, _⟩, h4⟩ hk z hz
      rcases List.mem_cons.mp hz with rfl | hz
      · obtain ⟨k1, k2⟩ := hk z List.mem_cons_self
        obtain ⟨-, -, t2, t3, -⟩ := h2
        refine ⟨fun c => ⟨(t2 c).2.2.2.2, w2 0 0 _ (.inl ⟨rfl, rfl⟩) (t2 c).2.2.2.2 (k1 c), lenX (t2 c)⟩, fun c => ?_⟩
        exact pCF _ _ _ _ (t3 c).2.2.1 (.inr (t3 c).2.1) (k2 c)
      · exact ih (b + 1) h4 (fun y hy => hk y (List.mem_cons_of_mem _ hy)) z hz
  refine ⟨nu, L, P, N, ⟨nA, nB⟩, fitE, ?_, ⟨⟨⟨hf.1, by omega⟩, by omega, by omega, i46, i44⟩, by omega, by omega, ?_, by omega, ?_⟩, ⟨hc, ⟨rfl, hz⟩, rfl, ⟨n4, n3⟩, ⟨p4, p3⟩, fun k a b => by rw [v46 k a b]; exact i46 k a b, fun k a b => by rw [v44 k a b]; exact i44 k a b⟩, l3, pCF L _ 0 0 L0 (.inl ⟨rfl, rfl⟩) kn1, tCF P _ P0 kn2⟩
  · rw [← fitE]
    unfold fitP
    rw [fKd_c (A := M 43) (B := M 161) (P := P) (j := 0) (fun i a b => v43 i a (by omega)), fVd_c (A := M 44) (B := M 162) (P := P) (j := 0) (fun i a b => v44 i a (by omega))]
  · rw [e89]
    exact pB_F (n := f) (by omega) L1 (fun x hx => ⟨w1 0 _ (kn1 x hx).1, w1 0 _ (kn1 x hx).2⟩)
  · exact tBd_F (n := f) (by omega) (by omega) (by omega) P1 (fun z hz => ⟨fun c => w1 0 _ ((kn2 z hz).1 c), fun c x hx => ⟨w1 _ _ ((kn2 z hz).2 c x hx).1, w1 _ _ ((kn2 z hz).2 c x hx).2⟩⟩)
end

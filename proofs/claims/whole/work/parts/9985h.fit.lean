/-! DO SLOTS FIT? both sides answer alike -/
section
variable {M : Nat → Int → Int} {f n : Int} {nu : Int → Int}
theorem rV_a {x : Nat} {b w : Int} {A : Int → Int} : ∀ {m : Nat} {j v : Int}, (∀ i, j ≤ i → i < j + m → nu (M x (b + i)) = A i) → v = nu w → rV M x b A w m j v = nu w
  | 0, _, _, _, h => h
  | m + 1, j, v, hA, h => by
    unfold rV
    refine rV_a (fun i a b => hA i (by omega) (by omega)) ?_
    split
    · rename_i c
      rw [← c]
      exact (hA j (by omega) (by omega)).symm
    · exact h
theorem rV_b {x : Nat} {b w : Int} {A : Int → Int} : ∀ {m : Nat} {j v i : Int}, (∀ i, j ≤ i → i < j + m → nu (M x (b + i)) = A i) → j ≤ i → i < j + m → M x (b + i) = w → rV M x b A w m j v = nu w
  | 0, _, _, _, _, h0, h1, _ => by omega
  | m + 1, j, v, i, hA, h0, h1, hw => by
    unfold rV
    by_cases c : i = j
    · subst c
      rw [if_pos hw]
      refine rV_a (fun i a b => hA i (by omega) (by omega)) ?_
      rw [← hw]
      exact (hA i (by omega) (by omega)).symm
    · exact rV_b (i := i) (fun i a b => hA i (by omega) (by omega)) (by omega) (by omega) hw
theorem rW_nu {w : Int} (h88 : 0 ≤ M 88 f) (h93 : 0 ≤ M 93 f) (hA : ∀ i, 0 ≤ i → i < M 88 f → nu (M 87 (4 * f + i)) = M 164 i) (hB : ∀ i, 0 ≤ i → i < M 93 f → nu (M 91 (5 * f + i)) = M 162 i) (h : nmD M f w) : rW M f w = nu w := by
  unfold rW
  rcases h with ⟨k, k0, k1, k2⟩ | ⟨k, k0, k1, k2⟩
  · exact rV_a (fun i a b => hB i a (by omega)) (rV_b (i := k) (fun i a b => hA i a (by omega)) k0 (by omega) k2)
  · exact rV_b (i := k) (fun i a b => hB i a (by omega)) k0 (by omega) k2
def nuL (nu A : Int → Int) : Int → List (Int × Int) → Prop
  | _, [] => True
  | k, x :: l => nu x.2 = A k ∧ nuL nu A (k + 1) l
theorem nmR_nu {x : Nat} {b : Int} {A : Int → Int} : ∀ {N : List (Int × Int)} {k : Int}, nmR M x (b + k) N → (∀ i, k ≤ i → i < k + N.length → nu (M x (b + i)) = A i) → nuL nu A k N
  | [], _, _, _ => trivial
  | u :: l, k, ⟨h1, h2⟩, hA => by
    rw [List.length_cons] at hA
    rw [Int.add_assoc] at h2
    exact ⟨by rw [← h1]; exact hA k (by omega) (by omega), nmR_nu h2 (fun i a b => hA i (by omega) (by omega))⟩
theorem nmR_mem {x : Nat} {b w : Int} : ∀ {N : List (Int × Int)} {k i : Int}, nmR M x (b + k) N → k ≤ i → i < k + N.length → M x (b + i) = w → ∃ u ∈ N, u.2 = w
  | [], _, _, _, h0, h1, _ => by rw [List.length_nil] at h1; omega
  | u :: l, k, i, ⟨h1, h2⟩, h0, hi, hw => by
    rw [List.length_cons] at hi
    rw [Int.add_assoc] at h2
    by_cases c : i = k
    · subst c
      exact ⟨u, List.mem_cons_self, by rw [← h1]; exact hw⟩
    · obtain ⟨v, v1, v2⟩ := nmR_mem h2 (i := i) (by omega) (by omega) hw
      exact ⟨v, List.mem_cons_of_mem _ v1, v2⟩
theorem paF_nm : ∀ {P : List ((Int × Int) × z_T)} {b : Int}, paF n M b P → nmR M 91 b (P.map Prod.fst) ∧ ∀ y ∈ P, w_w y.1.1 y.1.2
  | [], _, _ => ⟨trivial, fun y hy => by cases hy⟩
  | y :: l, b, ⟨⟨h1, _, h3⟩, h4⟩ => by
    obtain ⟨a, c⟩ := paF_nm h4
    refine ⟨⟨h1, a⟩, fun z hz => ?_⟩
    rcases List.mem_cons.mp hz with rfl | hz
    · exact h3
    · exact c z hz
theorem fAd_a {A : Int → Int} {w' w o : Int} (hw : w_w w' w) : ∀ {l : List (Int × Int)} {k : Int}, (∀ u ∈ l, w_w u.1 u.2) → nuL nu A k l → o = nu w → fAd A w' o k l = nu w
  | [], _, _, _, h => h
  | u :: l, k, hu, ⟨h1, h2⟩, h => by
    unfold fAd
    split
    · rename_i c
      rw [← h1, (w_w_eq (hu u List.mem_cons_self) hw).mp c]
    · exact fAd_a hw (fun v hv => hu v (List.mem_cons_of_mem _ hv)) h2 h
theorem fAd_b {A : Int → Int} {w' w o : Int} (hw : w_w w' w) : ∀ {l : List (Int × Int)} {k : Int}, (∀ u ∈ l, w_w u.1 u.2) → nuL nu A k l → (∃ u ∈ l, u.2 = w) → fAd A w' o k l = nu w
  | [], _, _, _, ⟨u, h, _⟩ => by cases h
  | u :: l, k, hu, ⟨h1, h2⟩, ⟨v, v1, v2⟩ => by
    unfold fAd
    split
    · rename_i c
      rw [← h1, (w_w_eq (hu u List.mem_cons_self) hw).mp c]
    · rename_i c
      rcases List.mem_cons.mp v1 with rfl | v1
      · exact absurd ((w_w_eq (hu v List.mem_cons_self) hw).mpr v2) c
      · exact fAd_b hw (fun v hv => hu v (List.mem_cons_of_mem _ hv)) h2 ⟨v, v1, v2⟩
theorem cW_nu {N : List (Int × Int)} {P : List ((Int × Int) × z_T)} {w' w : Int} (hw : w_w w' w) (h88 : M 88 f = N.length) (h93 : M 93 f = P.length) (hN : nmR M 87 (4 * f) N) (hNw : ∀ u ∈ N, w_w u.1 u.2) (hP : paF n M (5 * f) P) (hA : ∀ i, 0 ≤ i → i < M 88 f → nu (M 87 (4 * f + i)) = M 46 i) (hB : ∀ i, 0 ≤ i → i < M 93 f → nu (M 91 (5 * f + i)) = M 44 i) (h : nmD M f w) : cW M N P w' = nu w := by
  obtain ⟨p1, p2⟩ := paF_nm hP
  have lm : ((P.map Prod.fst).length : Int) = P.length := by rw [List.length_map]
  have n1 : nuL nu (M 46) 0 N := nmR_nu (b := 4 * f) (by rw [Int.add_zero]; exact hN) (fun i a b => hA i a (by omega))
  have n2 : nuL nu (M 44) 0 (P.map Prod.fst) := nmR_nu (b := 5 * f) (by rw [Int.add_zero]; exact p1) (fun i a b => hB i a (by omega))
  have p3 : ∀ u ∈ P.map Prod.fst, w_w u.1 u.2 := fun u hu => by
    obtain ⟨y, y1, rfl⟩ := List.mem_map.mp hu
    exact p2 y y1
  unfold cW
  rcases h with ⟨k, k0, k1, k2⟩ | ⟨k, k0, k1, k2⟩
  · exact fAd_b hw hNw n1 (nmR_mem (b := 4 * f) (k := 0) (i := k) (by rw [Int.add_zero]; exact hN) k0 (by omega) k2)
  · exact fAd_a hw hNw n1 (fAd_b hw p3 n2 (nmR_mem (b := 5 * f) (k := 0) (i := k) (by rw [Int.add_zero]; exact p1) k0 (by omega) k2))
theorem fKd_F {A : Int → Int} {b : Int} : ∀ {P : List ((Int × Int) × z_T)} {j : Int}, paF n M (b + j) P → (fKd A j P ↔ ∀ i, j ≤ i → i < j + P.length → A i = if M 113 (M 92 (b + i)) = 3 then 1 else 0)
  | [], j, _ => ⟨(fun _ i a c => by rw [List.length_nil] at c; omega), fun _ => trivial⟩
  | y :: l, j, ⟨⟨_, h2, _⟩, h4⟩ => by
    rw [Int.add_assoc] at h4
    have ih := fKd_F (A := A) h4
    have e := h2.2.1.1
    constructor
    · intro ⟨q1, q2⟩ i a c
      rw [List.length_cons] at c
      by_cases z : i = j
      · subst z; rw [e]; exact q1
      · exact ih.mp q2 i (by omega) (by omega)
    · intro q
      rw [List.length_cons] at q
      exact ⟨by rw [← e]; exact q j (by omega) (by omega), ih.mpr (fun i a c => q i (by omega) (by omega))⟩
theorem fVd_F {B : Int → Int} {b : Int} : ∀ {P : List ((Int × Int) × z_T)} {j : Int}, paF n M (b + j) P → (fVd B nu j P ↔ ∀ i, j ≤ i → i < j + P.length → tS M nu (M 92 (b + i)) (B i))
  | [], j, _ => ⟨(fun _ i a c => by rw [List.length_nil] at c; omega), fun _ => trivial⟩
  | y :: l, j, ⟨⟨_, h2, _⟩, h4⟩ => by
    rw [Int.add_assoc] at h4
    have ih := fVd_F (B := B) h4
    constructor
    · intro ⟨q1, q2⟩ i a c
      rw [List.length_cons] at c
      by_cases z : i = j
      · subst z; exact (tS_F h2).mpr q1
      · exact ih.mp q2 i (by omega) (by omega)
    · intro q
      rw [List.length_cons] at q
      exact ⟨(tS_F h2).mp (q j (by omega) (by omega)), ih.mpr (fun i a c => q i (by omega) (by omega))⟩
theorem pB_F {iw : Int} (hn : n < 8) : ∀ {L : List z_p} {i : Int}, psF n M i L → (∀ x ∈ L, kWd M f iw nu x.2.2.1 ∧ kWd M f iw nu x.2.2.2.1) → pB M f iw nu i L
  | [], _, _, _ => trivial
  | x :: l, i, ⟨⟨h0, h1, h2, h3⟩, h4⟩, hk => ⟨⟨by omega, ⟨ixF_B hn h1, (hk x List.mem_cons_self).1⟩, h2, ixF_B hn h3, (hk x List.mem_cons_self).2⟩, pB_F hn h4 (fun y hy => hk y (List.mem_cons_of_mem _ hy))⟩
theorem tBd_F (hn : n < 8) : ∀ {P : List ((Int × Int) × z_T)} {b : Int}, 0 ≤ b → b + P.length ≤ 40 → paF n M b P → (∀ y ∈ P, (y.2.1 = 1 ∨ y.2.1 = 3 → kWd M f 0 nu y.2.2.2.1.2) ∧ (y.2.1 = 2 → ∀ x ∈ y.2.2.2.2.2, kWd M f y.2.2.2.2.1.2 nu x.2.2.1 ∧ kWd M f y.2.2.2.2.1.2 nu x.2.2.2.1)) → tBd M f nu b P
  | [], _, _, _, _, _ => trivial
  | y :: l, b, b0, b1, ⟨⟨_, h2, _⟩, h4⟩, hk => by
    rw [List.length_cons] at b1
    obtain ⟨t0, t1, t2, t3, t4⟩ := h2
    obtain ⟨k1, k2⟩ := hk y List.mem_cons_self
    refine ⟨⟨by omega, by omega, t1, fun z => ⟨ixF_B hn (t2 z), k1 z⟩, fun z => ?_⟩, tBd_F hn (by omega) (by omega) h4 (fun u hu => hk u (List.mem_cons_of_mem _ hu))⟩
    obtain ⟨a1, -, a3, a4⟩ := t3 z
    have rg := psF_rg a3 a4
    exact ⟨a1, pB_F hn a3 (k2 z), t4, by omega, by omega⟩
end

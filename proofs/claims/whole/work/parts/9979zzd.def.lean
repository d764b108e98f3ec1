/-! THE FUNCTIONS that are there, in words -/
def nmW (T : Int → Int) (hi : Int) : Int → List (Int × Int) → Prop
  | c, [] => c = 0
  | c, w :: l => (1 ≤ c ∧ c < hi) ∧ T (c * 9 + 3) = w.1 ∧ nmW T hi (t_nx T c) l
def nmR (M : Nat → Int → Int) (x : Nat) : Int → List (Int × Int) → Prop
  | _, [] => True
  | b, w :: l => M x b = w.2 ∧ nmR M x (b + 1) l
def paW (T : Int → Int) (hi : Int) : Int → List ((Int × Int) × z_T) → Prop
  | c, [] => c = 0
  | c, y :: l => (1 ≤ c ∧ c < hi) ∧ T (c * 9 + 3) = y.1.1 ∧ tyC T 1 hi (T (c * 9 + 5)) y.2 ∧ paW T hi (t_nx T c) l
def paR (M : Nat → Int → Int) : Int → List ((Int × Int) × z_T) → Prop
  | _, [] => True
  | b, y :: l => (M 91 b = y.1.2 ∧ tyQ M (M 92 b) y.2) ∧ paR M (b + 1) l
/-- the tables, full up to the end of function f's part -/
def mf (f : Int) (M : Nat → Int → Int) : Nat → Int → Int := x_up (x_up (x_up (x_up (x_up (x_up (x_up M 81 21 (700 * (f + 1))) 81 30 (500 * (f + 1))) 81 34 (260 * (f + 1))) 81 38 (200 * (f + 1))) 81 42 (160 * (f + 1))) 81 48 (300 * (f + 1))) 81 10 f
theorem mf_ne {f : Int} {M : Nat → Int → Int} {x : Nat} (h : x ≠ 81) : mf f M x = M x := by
  unfold mf
  rw [x_up_ne h, x_up_ne h, x_up_ne h, x_up_ne h, x_up_ne h, x_up_ne h, x_up_ne h]
theorem mf_c {f : Int} {M : Nat → Int → Int} : mf f M 81 21 = 700 * (f + 1) ∧ mf f M 81 30 = 500 * (f + 1) ∧ mf f M 81 34 = 260 * (f + 1) ∧ mf f M 81 38 = 200 * (f + 1) ∧ mf f M 81 42 = 160 * (f + 1) ∧ mf f M 81 48 = 300 * (f + 1) ∧ mf f M 81 10 = f := by
  unfold mf
  refine ⟨?_, ?_, ?_, ?_, ?_, ?_, ?_⟩ <;> simp (disch := decide) only [x_up_s, x_up_o]
/-- a function: the class's tree T with its numbers F and z nodes, the reference's tables M -/
def fR (f : Int) (M : Nat → Int → Int) (T F : Int → Int) (z : Int) : Prop := ∃ N L P x, w_w (F 2) (M 86 f) ∧ (F 5 = N.length ∧ M 88 f = N.length ∧ N.length ≤ 4 ∧ nmW T z (F 4) N ∧ nmR M 87 (4 * f) N ∧ ∀ w ∈ N, w_w w.1 w.2) ∧ (M 90 f = L.length ∧ L.length ≤ 4 ∧ psC T 1 z (F 6) L ∧ psQ M (M 89 f) L ∧ (∀ y ∈ L, z_pk y) ∧ M 89 f = 200 * f) ∧ (F 8 = P.length ∧ M 93 f = P.length ∧ P.length ≤ 5 ∧ paW T z (F 7) P ∧ paR M (5 * f) P ∧ ∀ y ∈ P, w_w y.1.1 y.1.2 ∧ z_Tk y.2) ∧ (tyC T 1 z (F 9) x ∧ tyQ M (M 94 f) x ∧ z_Tk x) ∧ ((1 ≤ F 10 ∧ F 10 < z) ∧ fXt T F z) ∧ e_n M T (e_D 1 z (F 10)) (M 95 f) (F 10)
/-- the tables may grow -/
def qTb (M M' : Nat → Int → Int) : Prop := (M 81 21 ≤ M' 81 21 ∧ ∀ x i, 96 ≤ x → x ≤ 102 → i < M 81 21 → M' x i = M x i) ∧ (M 81 30 ≤ M' 81 30 ∧ ∀ x i, 104 ≤ x → x ≤ 106 → i < M 81 30 → M' x i = M x i) ∧ (M 81 34 ≤ M' 81 34 ∧ ∀ x i, 107 ≤ x → x ≤ 109 → i < M 81 34 → M' x i = M x i) ∧ (M 81 38 ≤ M' 81 38 ∧ ∀ x i, 110 ≤ x → x ≤ 112 → i < M 81 38 → M' x i = M x i) ∧ (M 81 42 ≤ M' 81 42 ∧ ∀ x i, 113 ≤ x → x ≤ 117 → i < M 81 42 → M' x i = M x i) ∧ M 81 48 ≤ M' 81 48 ∧ (∀ i, i < M 81 48 → M' 118 i = M 118 i) ∧ M' 81 10 = M 81 10
section
variable {M M' : Nat → Int → Int}
theorem ixQ_t {x a : Int} {L : List z_t} (h : ixQ M x a L) (hg : qTb M M') : ixQ M' x a L := by
  obtain ⟨h1, h2, h3, h4⟩ := h
  obtain ⟨-, ⟨c1, d1⟩, ⟨e1, f1⟩, -⟩ := hg
  have e7 : M' 107 x = M 107 x := f1 107 x (by omega) (by omega) (by omega)
  exact ⟨ixR_fr h1 (fun y p q => f1 y x p q (by omega)) (fun y i p q r s => d1 y i p q (by omega)), by omega, by omega, by omega⟩
theorem prQ_t {i : Int} {x : z_p} (h : prQ M i x) (hg : qTb M M') : prQ M' i x := by
  obtain ⟨h1, h2, h3, h4⟩ := h
  have q := hg.2.2.2.1
  refine ⟨by omega, ?_, ?_, ?_⟩
  · rw [q.2 110 i (by omega) (by omega) (by omega)]; exact ixQ_t h2 hg
  · rw [q.2 111 i (by omega) (by omega) (by omega)]; exact h3
  · rw [q.2 112 i (by omega) (by omega) (by omega)]; exact ixQ_t h4 hg
theorem psQ_t : ∀ {l : List z_p} {i : Int}, psQ M i l → qTb M M' → psQ M' i l
  | [], _, _, _ => trivial
  | _ :: _, _, ⟨a, b⟩, hg => ⟨prQ_t a hg, psQ_t b hg⟩
theorem tyQ_t {t : Int} {x : z_T} (h : tyQ M t x) (hg : qTb M M') : tyQ M' t x := by
  obtain ⟨h1, h2, h3, h4, h5, h6⟩ := h
  have q := hg.2.2.2.2.1
  refine ⟨by omega, ?_, h3, fun z => ?_, fun z => ?_, ?_⟩
  · rw [q.2 113 t (by omega) (by omega) (by omega)]; exact h2
  · rw [q.2 114 t (by omega) (by omega) (by omega)]; exact ixQ_t (h4 z) hg
  · rw [q.2 115 t (by omega) (by omega) (by omega), q.2 116 t (by omega) (by omega) (by omega)]; exact ⟨(h5 z).1, psQ_t (h5 z).2 hg⟩
  · rw [q.2 117 t (by omega) (by omega) (by omega)]; exact h6
theorem qN_t (h : qTb M M') : qN M M' := ⟨⟨h.1.1, fun x i p q _ s => h.1.2 x i p (by omega) s⟩, ⟨h.2.2.2.2.2.1, h.2.2.2.2.2.2.1⟩, fun _ _ _ g => ixQ_t g h, fun _ _ g => tyQ_t g h, h.2.2.2.2.2.2.2⟩
theorem nmR_fr {x : Nat} : ∀ {l : List (Int × Int)} {b : Int}, (∀ i, b ≤ i → i < b + l.length → M' x i = M x i) → nmR M x b l → nmR M' x b l
  | [], _, _, _ => trivial
  | w :: l, b, h, ⟨a, q⟩ => ⟨by rw [h b (by omega) (by rw [List.length_cons]; omega)]; exact a, nmR_fr (fun j p r => h j (by omega) (by rw [List.length_cons]; omega)) q⟩
theorem paR_fr : ∀ {l : List ((Int × Int) × z_T)} {b : Int}, (∀ x i, x = 91 ∨ x = 92 → b ≤ i → i < b + l.length → M' x i = M x i) → qTb M M' → paR M b l → paR M' b l
  | [], _, _, _, _ => trivial
  | y :: l, b, h, hg, ⟨a, q⟩ => ⟨⟨by rw [h 91 b (by omega) (by omega) (by rw [List.length_cons]; omega)]; exact a.1, by rw [h 92 b (by omega) (by omega) (by rw [List.length_cons]; omega)]; exact tyQ_t a.2 hg⟩, paR_fr (fun x j u p r => h x j u (by omega) (by rw [List.length_cons]; omega)) hg q⟩
/-- it stays what it is -/
theorem fR_t {f z : Int} {T F : Int → Int} (h : fR f M T F z) (hg : qTb M M') (h1 : ∀ x, x = 86 ∨ x = 88 ∨ x = 89 ∨ x = 90 ∨ x = 93 ∨ x = 94 ∨ x = 95 → M' x f = M x f) (h2 : ∀ i, 4 * f ≤ i → i < 4 * f + 4 → M' 87 i = M 87 i) (h3 : ∀ x i, x = 91 ∨ x = 92 → 5 * f ≤ i → i < 5 * f + 5 → M' x i = M x i) : fR f M' T F z := by
  obtain ⟨N, L, P, x, a1, ⟨b1, b2, b3, b4, b5, b6⟩, ⟨c1, c2, c3, c4, c5⟩, ⟨d1, d2, d3, d4, d5, d6⟩, ⟨e1, e2, e3⟩, g1, g2⟩ := h
  refine ⟨N, L, P, x, by rw [h1 86 (by omega)]; exact a1, ⟨b1, by rw [h1 88 (by omega)]; exact b2, b3, b4, nmR_fr (fun i u v => h2 i u (by omega)) b5, b6⟩, ⟨by rw [h1 90 (by omega)]; exact c1, c2, c3, by rw [h1 89 (by omega)]; exact psQ_t c4 hg, c5.1, by rw [h1 89 (by omega)]; exact c5.2⟩, ⟨d1, by rw [h1 93 (by omega)]; exact d2, d3, d4, paR_fr (fun x i w u v => h3 x i w u (by omega)) hg d5, d6⟩, ⟨e1, by rw [h1 94 (by omega)]; exact tyQ_t e2 hg, e3⟩, g1, ?_⟩
  rw [h1 95 (by omega)]
  exact e_n_t (qN_t hg) (fun _ _ _ _ _ => rfl) (fun _ _ _ => rfl) g2
theorem nmW_t {tk : Int → t_t} {T : Int → Int} {hi : Int} : ∀ {l : List Int} {n : Int}, nmT tk T hi n l → nmW T hi n (l.map (fun i => ((tk i).2.2.1, (tk i).2.2.2.2)))
  | [], _, h => h
  | _ :: _, _, ⟨a, b, q⟩ => ⟨a, b.2, nmW_t q⟩
theorem nmR_t {tk : Int → t_t} {x : Nat} : ∀ {l : List Int} {b : Int}, nmQ tk M x b l → nmR M x b (l.map (fun i => ((tk i).2.2.1, (tk i).2.2.2.2)))
  | [], _, _ => trivial
  | _ :: _, _, ⟨a, q⟩ => ⟨a, nmR_t q⟩
theorem paW_t {tk : Int → t_t} {T : Int → Int} {hi : Int} : ∀ {l : List (Int × z_T)} {n : Int}, paT tk T hi n l → paW T hi n (l.map (fun y => (((tk y.1).2.2.1, (tk y.1).2.2.2.2), y.2)))
  | [], _, h => h
  | _ :: _, _, ⟨a, b, t, q⟩ => ⟨a, b.2, t, paW_t q⟩
theorem paR_t {tk : Int → t_t} : ∀ {l : List (Int × z_T)} {b : Int}, nmQ tk M 91 b (l.map Prod.fst) → tyL M b l → paR M b (l.map (fun y => (((tk y.1).2.2.1, (tk y.1).2.2.2.2), y.2)))
  | [], _, _, _ => trivial
  | _ :: _, _, ⟨a, q⟩, ⟨t, q'⟩ => ⟨⟨a, t⟩, paR_t q q'⟩
/-- what was read is a function -/
theorem fR_of {tk : Int → t_t} {c f z : Int} {T F : Int → Int} (hS : t_S tk c) (h : fRt tk c f M T F z) (hc1 : 1 ≤ c) (hB : cB f M) (hX : fXt T F z) : fR f (mf f M) T F z := by
  obtain ⟨l1, L, ps, x, ⟨⟨a1, a2, a3, a4⟩, ⟨b1, b2, b3, b4⟩, c1, c2, c3, c4, c5, c6, c7⟩, ⟨⟨d1, d2⟩, d3, d4, d5⟩, ⟨e1, e2, e3⟩, ⟨g1, g2⟩, -, ⟨i1, i2, i3, i4⟩⟩ := h
  have hm := mf_c (f := f) (M := M)
  obtain ⟨m1, m2, m3, m4, m5, m6⟩ := hm
  obtain ⟨k1, k2, k3, k4, k5, k6⟩ := hB
  have hg : qTb M (mf f M) := ⟨⟨by omega, fun x i _ _ _ => by rw [mf_ne (by omega)]⟩, ⟨by omega, fun x i _ _ _ => by rw [mf_ne (by omega)]⟩, ⟨by omega, fun x i _ _ _ => by rw [mf_ne (by omega)]⟩, ⟨by omega, fun x i _ _ _ => by rw [mf_ne (by omega)]⟩, ⟨by omega, fun x i _ _ _ => by rw [mf_ne (by omega)]⟩, by omega, (fun i _ => by rw [mf_ne (by decide)]), by omega⟩
  have h0 : fR f M T F z := by
    refine ⟨l1.map (fun i => ((tk i).2.2.1, (tk i).2.2.2.2)), L, ps.map (fun y => (((tk y.1).2.2.1, (tk y.1).2.2.2.2), y.2)), x, ?_, ⟨by rw [List.length_map]; exact d1, by rw [List.length_map]; exact a1, by rw [List.length_map]; omega, nmW_t d2, nmR_t a2, fun w hw => ?_⟩, ⟨b1, b4.1, d3, b2, b3, b4.2⟩, ⟨by rw [List.length_map]; exact d4, by rw [List.length_map]; exact c1, by rw [List.length_map]; omega, paW_t d5, paR_t c2 c3, fun y hy => ?_⟩, ⟨e1, e2, e3⟩, ⟨g1, hX⟩, g2⟩
    · rw [i1, i2]; exact z_ww (hS.2.2.1 1 (by omega) hc1) i4
    · obtain ⟨i, hi, rfl⟩ := List.mem_map.mp hw
      have := a4 i hi
      exact z_ww (hS.2.2.1 i this.1.1 this.1.2) this.2
    · obtain ⟨y0, hy0, rfl⟩ := List.mem_map.mp hy
      have := c5 y0.1 (List.mem_map_of_mem hy0)
      exact ⟨z_ww (hS.2.2.1 y0.1 this.1.1 this.1.2) this.2, c6 y0 hy0⟩
  exact fR_t h0 hg (fun x hx => by rw [mf_ne (by omega)]) (fun i _ _ => by rw [mf_ne (by decide)]) (fun x i hx _ _ => by rw [mf_ne (by omega)])
end
/-- trees, and functions: what is kept besides -/
def fnP (s : xs) : Prop := (∀ k, 0 ≤ k → k ≤ 8 → s.2.2.2.1 7 k = none ∨ ∃ q : Nat, s.2.2.2.1 7 k = some (q + 175) ∧ c_T s.1 s.2.2.2.1 q ∧ q + 2 ≤ s.2.1) ∧ (∀ k k' (q : Nat), 0 ≤ k → k ≤ 8 → 0 ≤ k' → k' ≤ 8 → k ≠ k' → s.2.2.2.1 7 k = some (q + 175) → s.2.2.2.1 7 k' ≠ some (q + 175)) ∧ ∀ f, 0 ≤ f → f ≤ 8 → f < s.2.2.1 0 9 → ∃ q : Nat, s.2.2.2.1 7 f = some (q + 175) ∧ (1 ≤ s.2.2.1 (q + 174) 1 ∧ s.2.2.1 (q + 174) 1 ≤ 500) ∧ fR f (mf f s.2.2.1) (s.2.2.1 (q + 175)) (fun j => s.2.2.1 (q + 174) j) (s.2.2.1 (q + 174) 1)

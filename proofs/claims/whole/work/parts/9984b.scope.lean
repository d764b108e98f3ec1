/-! CHECK: rows speak of variables that there are; facts stay -/
def u_z (v : Int) (h : Int → Int) : Prop := ∀ k, v ≤ k → k < 24 → h k = 0
theorem u_z_le {v v' : Int} {h : Int → Int} (q : u_z v h) (hv : v ≤ v') : u_z v' h := fun k a b => q k (by omega) b
theorem u_z_0 {v : Int} : u_z v k_0 := fun _ _ _ => rfl
theorem u_z_n {v n : Int} : u_z v (k_n n) := fun k _ b => by unfold k_n; rw [if_neg (by omega)]
theorem u_z_w {v n : Int} (h : n < v) : u_z v (k_w n) := fun k a _ => by unfold k_w; rw [if_neg (by omega)]
theorem u_z_p {v f : Int} {h g : Int → Int} (q : u_z v h) (r : u_z v g) : u_z v (k_p h g f) := fun k a b => by unfold k_p; rw [q k a b, r k a b, Int.mul_zero]; rfl
theorem u_z_m {v f : Int} {h : Int → Int} (q : u_z v h) : u_z v (k_m h f) := fun k a b => by unfold k_m; rw [q k a b, Int.mul_zero]
theorem u_z_pd {v r : Int} {h : Int → Int} (q : u_z v h) : ∀ w ∈ k_pd r h, u_z v w := by
  intro w hw
  unfold k_pd at hw
  split at hw
  · rcases List.mem_cons.mp hw with rfl | hw
    · exact q
    · rcases List.mem_cons.mp hw with rfl | hw
      · exact u_z_m q
      · cases hw
  · split at hw
    · rcases List.mem_cons.mp hw with rfl | hw
      · exact u_z_p q u_z_n
      · cases hw
    · split at hw
      · rcases List.mem_cons.mp hw with rfl | hw
        · exact q
        · cases hw
      · split at hw
        · rcases List.mem_cons.mp hw with rfl | hw
          · exact u_z_p (u_z_m q) u_z_n
          · cases hw
        · rcases List.mem_cons.mp hw with rfl | hw
          · exact u_z_m q
          · cases hw
/-- names -/
def eZ (v : Int) (E : k_E) : Prop := ∀ y ∈ E, u_z v y.2.2
theorem eZ_le {v v' : Int} {E : k_E} (q : eZ v E) (hv : v ≤ v') : eZ v' E := fun y hy => u_z_le (q y hy) hv
theorem eZ_c {v c b : Int} {h : Int → Int} {E : k_E} (q : u_z v h) (r : eZ v E) : eZ v ((c, b, h) :: E) := fun y hy => by
  rcases List.mem_cons.mp hy with rfl | hy
  · exact q
  · exact r y hy
theorem eZ_fl {v w : Int} {x : Int × (Int → Int)} : ∀ {E : k_E}, eZ v E → k_fl w E = some x → u_z v x.2
  | [], _, h => by cases h
  | y :: l, q, h => by
    unfold k_fl at h
    split at h
    · injection h with h
      rw [← h]
      exact q y (List.mem_cons_self ..)
    · exact eZ_fl (fun z hz => q z (List.mem_cons_of_mem _ hz)) h
theorem eZ_fd {v w : Int} {x : Int × (Int → Int)} : ∀ {E : k_E}, eZ v E → k_fd w E = some x → u_z v x.2
  | [], _, h => by cases h
  | y :: l, q, h => by
    unfold k_fd at h
    split at h
    · injection h with h
      rw [← h]
      exact q y (List.mem_cons_self ..)
    · exact eZ_fd (fun z hz => q z (List.mem_cons_of_mem _ hz)) h
theorem u_z_ix {v iw : Int} {E : k_E} (hE : eZ v E) : ∀ {L : List (Int × Int × Int)} {h : Int → Int} {z : Int} {y : (Int → Int) × Int}, u_z v h → k_ix E iw L h z = .inr y → u_z v y.1
  | [], h, z, y, q, e => by
    cases e
    exact q
  | t :: l, h, z, y, q, e => by
    unfold k_ix at e
    split at e
    · exact u_z_ix hE (u_z_p q u_z_n) e
    · split at e
      · exact u_z_ix hE q e
      · split at e
        · cases e
        · rename_i x hx
          split at e
          · cases e
          · exact u_z_ix hE (u_z_p q (eZ_fd hE hx)) e
theorem k_xx_inv {M : Nat → Int → Int} {E : k_E} {iw cp x : Int} {y : (Int → Int) × Int} (h : k_xx M E iw cp x = .inr y) : k_ix E iw (k_tl M (M 107 x) (M 108 x).toNat) k_0 0 = .inr y := by
  unfold k_xx k_ih at h
  obtain ⟨a, h1, h2⟩ := k_b_inv h
  by_cases q : k_in 1000000 a.1 a.2
  · rw [k_if_t q] at h2
    cases h2
    exact h1
  · rw [k_if_f q] at h2
    cases h2
theorem u_z_xx {v iw cp x : Int} {M : Nat → Int → Int} {E : k_E} {y : (Int → Int) × Int} (hE : eZ v E) (h : k_xx M E iw cp x = .inr y) : u_z v y.1 := u_z_ix hE u_z_0 (k_xx_inv h)
theorem u_z_rp {v iw cp : Int} {M : Nat → Int → Int} {E : k_E} (hE : eZ v E) : ∀ {n : Nat} {p : Int} {l : List (Int × (Int → Int) × Int)}, k_rp M E iw cp p n = .inr l → ∀ u ∈ l, u_z v u.2.1
  | 0, _, _, h, u, hu => by cases h; cases hu
  | n + 1, p, l, h, u, hu => by
    obtain ⟨a, h1, h2⟩ := k_b_inv (show k_b (k_xx M E iw cp (M 110 p)) _ = .inr l from h)
    obtain ⟨b, h3, h4⟩ := k_b_inv h2
    obtain ⟨l', h5, h6⟩ := k_b_inv h4
    cases h6
    rcases List.mem_cons.mp hu with rfl | hu
    · exact u_z_p (u_z_xx hE h3) (u_z_xx hE h1)
    · exact u_z_rp hE h5 u hu
/-- a type that was looked at -/
def tZ (v : Int) (t : k_h) : Prop := u_z v t.2.1 ∧ ∀ u ∈ t.2.2, u_z v u.2.1
theorem tZ_le {v v' : Int} {t : k_h} (q : tZ v t) (hv : v ≤ v') : tZ v' t := ⟨u_z_le q.1 hv, fun u hu => u_z_le (q.2 u hu) hv⟩
theorem tZ_rs {v cp t : Int} {M : Nat → Int → Int} {E : k_E} {y : k_h} (hE : eZ v E) (h : k_rs M E cp t = .inr y) : tZ v y := by
  unfold k_rs at h
  split at h
  · obtain ⟨a, h1, h2⟩ := k_b_inv h
    cases h2
    exact ⟨u_z_xx hE h1, fun u hu => by cases hu⟩
  · split at h
    · obtain ⟨a, h1, h2⟩ := k_b_inv h
      cases h2
      exact ⟨u_z_0, u_z_rp hE h1⟩
    · cases h
      exact ⟨u_z_0, fun u hu => by cases hu⟩
theorem u_z_dp {v : Int} {h : Int → Int} (q : u_z v h) : ∀ {l : List (Int × (Int → Int) × Int)}, (∀ u ∈ l, u_z v u.2.1) → ∀ w ∈ k_dp h l, u_z v w
  | [], _, w, hw => by cases hw
  | x :: l, hl, w, hw => by
    rcases List.mem_append.mp (show w ∈ k_pd x.1 (k_p x.2.1 h x.2.2) ++ k_dp h l from hw) with hw | hw
    · exact u_z_pd (u_z_p (hl x (List.mem_cons_self ..)) q) w hw
    · exact u_z_dp q (fun u hu => hl u (List.mem_cons_of_mem _ hu)) w hw
/-- the ground -/
def sZ (s : k_s) : Prop := (0 ≤ s.1 0 ∧ s.1 0 ≤ 24) ∧ 0 ≤ s.1 1 ∧ ∀ j, 0 ≤ j → j < s.1 1 → u_z (s.1 0) (s.2.1 j)
/-- it goes on: facts stay -/
def zS (s s' : k_s) : Prop := s.1 0 ≤ s'.1 0 ∧ s.1 1 ≤ s'.1 1 ∧ (∀ j, j < s.1 1 → s'.2.1 j = s.2.1 j) ∧ sZ s'
theorem zS_rf {s : k_s} (h : sZ s) : zS s s := ⟨Int.le_refl _, Int.le_refl _, fun _ _ => rfl, h⟩
theorem zS_tr {s s1 s2 : k_s} (h1 : zS s s1) (h2 : zS s1 s2) : zS s s2 := ⟨Int.le_trans h1.1 h2.1, Int.le_trans h1.2.1 h2.2.1, fun j hj => (h2.2.2.1 j (Int.lt_of_lt_of_le hj h1.2.1)).trans (h1.2.2.1 j hj), h2.2.2.2⟩
theorem zS_nv {pl : Int} {s : k_s} {y : k_s × Int} (hs : sZ s) (h : k_nv pl s = .inr y) : zS s y.1 ∧ (y.2 = s.1 0 ∧ y.1.1 0 = s.1 0 + 1 ∧ y.2 < 24) ∧ y.1.1 1 = s.1 1 ∧ y.1.2 = s.2 ∧ u_z (y.1.1 0) (k_w y.2) := by
  unfold k_nv at h
  split at h
  · cases h
  · rename_i hn
    cases h
    obtain ⟨a, b, c⟩ := hs
    have e0 : t_u s.1 0 (s.1 0 + 1) 0 = s.1 0 + 1 := t_u_s rfl
    have e1 : t_u s.1 0 (s.1 0 + 1) 1 = s.1 1 := t_u_o (by decide)
    refine ⟨⟨by dsimp only; omega, by dsimp only; omega, fun _ _ => rfl, ⟨by dsimp only; omega, by dsimp only; omega, fun j j0 j1 => ?_⟩⟩, ⟨rfl, e0, by dsimp only; omega⟩, e1, rfl, ?_⟩
    · dsimp only at j1 ⊢
      rw [e0]
      exact u_z_le (c j j0 (by omega)) (by omega)
    · dsimp only
      rw [e0]
      exact u_z_w (by omega)
theorem zS_af {pl : Int} {h : Int → Int} {s s' : k_s} (hs : sZ s) (hz : u_z (s.1 0) h) (q : k_af pl h s = .inr s') : zS s s' ∧ s'.1 0 = s.1 0 ∧ s'.1 1 = s.1 1 + 1 ∧ s'.2.1 (s.1 1) = h := by
  unfold k_af at q
  split at q
  · cases q
  · cases q
    obtain ⟨a, b, c⟩ := hs
    have e0 : t_u s.1 1 (s.1 1 + 1) 0 = s.1 0 := t_u_o (by decide)
    have e1 : t_u s.1 1 (s.1 1 + 1) 1 = s.1 1 + 1 := t_u_s rfl
    refine ⟨⟨by dsimp only; omega, by dsimp only; omega, fun j hj => ?_, ⟨by dsimp only; omega, by dsimp only; omega, fun j j0 j1 => ?_⟩⟩, e0, e1, ?_⟩
    · show k_ur s.2.1 (s.1 1) h j = s.2.1 j
      unfold k_ur
      exact if_neg (by omega)
    · dsimp only at j1 ⊢
      rw [e0]
      unfold k_ur
      by_cases hj : j = s.1 1
      · rw [if_pos hj]; exact hz
      · rw [if_neg hj]; exact c j j0 (by omega)
    · show k_ur s.2.1 (s.1 1) h (s.1 1) = h
      unfold k_ur
      exact if_pos rfl
theorem zS_afs {pl : Int} : ∀ {l : List (Int → Int)} {s s' : k_s}, sZ s → (∀ w ∈ l, u_z (s.1 0) w) → k_afs pl l s = .inr s' → zS s s' ∧ s'.1 0 = s.1 0
  | [], s, s', hs, _, q => by cases q; exact ⟨zS_rf hs, rfl⟩
  | h :: l, s, s', hs, hl, q => by
    obtain ⟨s1, h1, h2⟩ := k_b_inv (show k_b (k_af pl h s) (k_afs pl l) = .inr s' from q)
    obtain ⟨a, b, -, -⟩ := zS_af hs (hl h (List.mem_cons_self ..)) h1
    obtain ⟨c, e⟩ := zS_afs a.2.2.2 (fun w hw => by rw [b]; exact hl w (List.mem_cons_of_mem _ hw)) h2
    exact ⟨zS_tr a c, by rw [e, b]⟩
theorem zS_ag {f pl so : Int} {h : Int → Int} {s s' : k_s} (hs : sZ s) (q : k_ag f pl so h s = .inr s') : zS s s' ∧ s'.1 0 = s.1 0 ∧ s'.1 1 = s.1 1 ∧ s'.2.1 = s.2.1 := by
  unfold k_ag at q
  split at q
  · cases q
  · cases q
    have e0 : k_gn so h s 0 = s.1 0 := by
      unfold k_gn
      split <;> rw [t_u_o (by decide), t_u_o (by decide)]
    have e1 : k_gn so h s 1 = s.1 1 := by
      unfold k_gn
      split <;> rw [t_u_o (by decide), t_u_o (by decide)]
    refine ⟨⟨by dsimp only; omega, by dsimp only; omega, fun j hj => rfl, ?_⟩, e0, e1, rfl⟩
    unfold sZ at hs ⊢
    dsimp only
    rw [e0, e1]
    exact hs
theorem zS_ags {f pl so : Int} : ∀ {l : List (Int → Int)} {s s' : k_s}, sZ s → k_ags f pl so l s = .inr s' → zS s s' ∧ s'.1 0 = s.1 0 ∧ s'.1 1 = s.1 1 ∧ s'.2.1 = s.2.1
  | [], s, s', hs, q => by cases q; exact ⟨zS_rf hs, rfl, rfl, rfl⟩
  | h :: l, s, s', hs, q => by
    obtain ⟨s1, h1, h2⟩ := k_b_inv (show k_b (k_ag f pl so h s) (k_ags f pl so l) = .inr s' from q)
    obtain ⟨a, b, b2, b3⟩ := zS_ag hs h1
    obtain ⟨c, e, e2, e3⟩ := zS_ags a.2.2.2 h2
    exact ⟨zS_tr a c, by rw [e, b], by rw [e2, b2], by rw [e3, b3]⟩
/-- a value: what it is speaks of variables that there are -/
def zV (y : k_v) : Prop := u_z (y.1.1 0) y.2.2 ∧ (y.2.1 = 0 ∨ y.2.1 = 1)
theorem zS_nw {pl : Int} {s : k_s} {y : k_v} (hs : sZ s) (h : k_nw pl s = .inr y) : zS s y.1 ∧ zV y := by
  unfold k_nw at h
  obtain ⟨a, h1, h2⟩ := k_b_inv h
  cases h2
  obtain ⟨c1, -, -, -, c2⟩ := zS_nv hs h1
  exact ⟨c1, c2, .inl rfl⟩
theorem zS_gv {t : k_h} {pl : Int} {s : k_s} {y : k_v} (hs : sZ s) (ht : tZ (s.1 0) t) (h : k_gv t pl s = .inr y) : zS s y.1 ∧ zV y := by
  unfold k_gv at h
  split at h
  · cases h
    exact ⟨zS_rf hs, ht.1, .inl rfl⟩
  · split at h
    · obtain ⟨a, h1, h2⟩ := k_b_inv h
      cases h2
      obtain ⟨c1, c2, -, -⟩ := zS_af hs ht.1 h1
      exact ⟨c1, by dsimp only; rw [c2]; exact ht.1, .inr rfl⟩
    · obtain ⟨a, h1, h2⟩ := k_b_inv h
      obtain ⟨c1, ⟨c2, c3, c4⟩, c5, c6, c7⟩ := zS_nv hs h1
      try dsimp only at h2
      split at h2
      · obtain ⟨b, h3, h4⟩ := k_b_inv h2
        cases h4
        obtain ⟨d1, d2⟩ := zS_afs c1.2.2.2 (u_z_dp c7 (fun u hu => u_z_le (ht.2 u hu) c1.1)) h3
        exact ⟨zS_tr c1 d1, by dsimp only; rw [d2]; exact c7, .inl rfl⟩
      · cases h2
        exact ⟨c1, c7, .inl rfl⟩
theorem zS_sm {pl : Int} {h : Int → Int} {s : k_s} {y : k_v} (hs : sZ s) (hz : u_z (s.1 0) h) (q : k_sm pl h s = .inr y) : zS s y.1 ∧ zV y := by
  rw [k_sm_nw] at q
  by_cases hi : k_in 1000000 h 0
  · rw [k_if_t hi] at q
    cases q
    exact ⟨zS_rf hs, hz, .inl rfl⟩
  · rw [k_if_f hi] at q
    exact zS_nw hs q
theorem zS_tw {kd pl : Int} {h g : Int → Int} {s : k_s} {y : k_v} (hs : sZ s) (h1 : u_z (s.1 0) h) (h2 : u_z (s.1 0) g) (q : k_tw kd pl h g s = .inr y) : zS s y.1 ∧ zV y := by
  unfold k_tw k_ml at q
  split at q
  · by_cases h3 : k_u 0 h 0
    · rw [k_if_t h3] at q
      exact zS_sm hs (u_z_m h2) q
    · rw [k_if_f h3] at q
      by_cases h4 : k_u 0 g 0
      · rw [k_if_t h4] at q
        exact zS_sm hs (u_z_m h1) q
      · rw [k_if_f h4] at q
        exact zS_nw hs q
  · exact zS_sm hs (u_z_p h1 h2) q
theorem zS_dv {pl n : Int} {h : Int → Int} {s : k_s} {y : k_v} (hs : sZ s) (hz : u_z (s.1 0) h) (q : k_dv pl n h s = .inr y) : zS s y.1 ∧ zV y := by
  unfold k_dv at q
  obtain ⟨a, h1, h2⟩ := k_b_inv q
  obtain ⟨b, h3, h4⟩ := k_b_inv h2
  obtain ⟨c, h5, h6⟩ := k_b_inv h4
  cases h6
  obtain ⟨c1, -, -, -, c7⟩ := zS_nv hs h1
  have g1 : u_z (a.1.1 0) (k_p h (k_w a.2) (-n)) := u_z_p (u_z_le hz c1.1) c7
  obtain ⟨d1, d2, -, -⟩ := zS_af c1.2.2.2 g1 h3
  obtain ⟨e1, e2, -, -⟩ := zS_af d1.2.2.2 (by rw [d2]; exact u_z_p (u_z_m g1) u_z_n) h5
  exact ⟨zS_tr c1 (zS_tr d1 e1), by dsimp only; rw [e2, d2]; exact c7, .inl rfl⟩
theorem k_ac_aw {f pl r : Int} {g h : Int → Int} {w : Option (Int → Int)} {s : k_s} : k_ac f pl r g h w s = k_b (k_ag f pl 0 h s) (fun s1 => k_b (k_ag f pl 1 (k_p (k_p (k_m h (-1)) g 1) (k_n 1) (-1)) s1) (fun s2 => k_aw pl w (t_u (t_u s2.1 5 (s2.1 5 + 1)) 6 (s2.1 6 + (if s2.2.2.1 (s.1 2) 3 = 1 ∧ s2.2.2.1 (s1.1 2) 3 = 1 then 1 else 0)), s2.2.1, s2.2.2.1, t_u s2.2.2.2 r (if s2.2.2.1 (s.1 2) 3 = 1 ∧ s2.2.2.1 (s1.1 2) 3 = 1 then 1 else 0)))) := by
  cases w <;> rfl
theorem zS_ac {f pl r : Int} {g h : Int → Int} {w : Option (Int → Int)} {s : k_s} {y : k_v} (hs : sZ s) (hw : ∀ x, w = some x → u_z (s.1 0) x) (q : k_ac f pl r g h w s = .inr y) : zS s y.1 ∧ zV y := by
  rw [k_ac_aw] at q
  obtain ⟨s1, h1, h2⟩ := k_b_inv q
  obtain ⟨s2, h3, h4⟩ := k_b_inv h2
  obtain ⟨a1, a2, a3, a4⟩ := zS_ag hs h1
  obtain ⟨b1, b2, b3, b4⟩ := zS_ag a1.2.2.2 h3
  have c := zS_tr a1 b1
  generalize (if s2.2.2.1 (s.1 2) 3 = 1 ∧ s2.2.2.1 (s1.1 2) 3 = 1 then (1 : Int) else 0) = fr at h4
  have e0 : t_u (t_u s2.1 5 (s2.1 5 + 1)) 6 (s2.1 6 + fr) 0 = s2.1 0 := by rw [t_u_o (by decide), t_u_o (by decide)]
  have e1 : t_u (t_u s2.1 5 (s2.1 5 + 1)) 6 (s2.1 6 + fr) 1 = s2.1 1 := by rw [t_u_o (by decide), t_u_o (by decide)]
  have d : zS s2 (t_u (t_u s2.1 5 (s2.1 5 + 1)) 6 (s2.1 6 + fr), s2.2.1, s2.2.2.1, t_u s2.2.2.2 r fr) := ⟨by dsimp only; omega, by dsimp only; omega, fun _ _ => rfl, by
    have := c.2.2.2
    unfold sZ at this ⊢
    dsimp only
    rw [e0, e1]
    exact this⟩
  cases w with
  | none =>
    obtain ⟨g1, g2⟩ := zS_nw d.2.2.2 h4
    exact ⟨zS_tr c (zS_tr d g1), g2⟩
  | some x =>
    cases h4
    exact ⟨zS_tr c d, by dsimp only; rw [e0, b2, a2]; exact hw x rfl, .inl rfl⟩
theorem zS_no {pl r : Int} {h : Int → Int} {s s' : k_s} (hs : sZ s) (hz : u_z (s.1 0) h) (q : k_no pl r h s = .inr s') : zS s s' ∧ s'.1 0 = s.1 0 := by
  unfold k_no at q
  split at q
  · cases q; exact ⟨zS_rf hs, rfl⟩
  · exact zS_afs hs (u_z_pd hz) q
theorem zS_jn {pl pe v b b' : Int} {h h' : Int → Int} {s : k_s} {y : k_v} (hs : sZ s) (hv : s.1 0 = v) (hb : b = 0 ∨ b = 1) (q : k_jn pl pe v b h b' h' s = .inr y) : zS s y.1 ∧ zV y := by
  unfold k_jn at q
  split at q
  · cases q
  · by_cases hc : k_e h h' ∧ k_u v h 0
    · rw [k_if_t hc] at q
      cases q
      exact ⟨zS_rf hs, by dsimp only; rw [hv]; exact hc.2.1, hb⟩
    · rw [k_if_f hc] at q
      obtain ⟨a, h1, h2⟩ := k_b_inv q
      obtain ⟨c1, -, -, -, c7⟩ := zS_nv hs h1
      try dsimp only at h2
      split at h2
      · obtain ⟨c, h3, h4⟩ := k_b_inv h2
        cases h4
        obtain ⟨d1, d2, -, -⟩ := zS_af c1.2.2.2 c7 h3
        exact ⟨zS_tr c1 d1, by dsimp only; rw [d2]; exact c7, .inr rfl⟩
      · cases h2
        exact ⟨c1, c7, .inl rfl⟩
/-- back to where it was -/
theorem zS_bk {s s' : k_s} (h : zS s s') (hs : sZ s) : zS s (k_bk (s.1 0) (s.1 1) s') ∧ (k_bk (s.1 0) (s.1 1) s').1 0 = s.1 0 ∧ (k_bk (s.1 0) (s.1 1) s').1 1 = s.1 1 := by
  have e0 : (k_bk (s.1 0) (s.1 1) s').1 0 = s.1 0 := by
    show t_u (t_u s'.1 0 (s.1 0)) 1 (s.1 1) 0 = s.1 0
    rw [t_u_o (by decide), t_u_s rfl]
  have e1 : (k_bk (s.1 0) (s.1 1) s').1 1 = s.1 1 := by
    show t_u (t_u s'.1 0 (s.1 0)) 1 (s.1 1) 1 = s.1 1
    exact t_u_s rfl
  refine ⟨⟨by omega, by omega, fun j hj => h.2.2.1 j hj, ?_⟩, e0, e1⟩
  obtain ⟨a, b, c⟩ := hs
  refine ⟨by rw [e0]; exact a, by rw [e1]; exact b, fun j j0 j1 => ?_⟩
  rw [e1] at j1
  rw [e0]
  show u_z (s.1 0) (s'.2.1 j)
  rw [h.2.2.1 j j1]
  exact c j j0 j1
theorem eZ_en {v : Int} {M : Nat → Int → Int} : ∀ {is : List (Int → Int)} {b : Int} {E : k_E}, (∀ h ∈ is, u_z v h) → eZ v E → eZ v (k_en M b is E)
  | [], _, _, _, h => h
  | x :: l, b, E, hi, h => by
    show eZ v (k_en M (b + 1) l ((M 87 b, 0, x) :: E))
    exact eZ_en (fun y hy => hi y (List.mem_cons_of_mem _ hy)) (eZ_c (hi x (List.mem_cons_self ..)) h)
theorem u_z_ci {v : Int} {M : Nat → Int → Int} {E : k_E} (hE : eZ v E) : ∀ {n : Nat} {x : Int} {l : List (Int → Int)}, k_ci M E x n = .inr l → ∀ h ∈ l, u_z v h
  | 0, _, _, h, u, hu => by cases h; cases hu
  | n + 1, x, l, h, u, hu => by
    obtain ⟨a, h1, h2⟩ := k_b_inv (show k_b (k_xx M E 0 (-1) x) _ = .inr l from h)
    obtain ⟨l', h3, h4⟩ := k_b_inv h2
    cases h4
    rcases List.mem_cons.mp hu with rfl | hu
    · exact u_z_xx hE h1
    · exact u_z_ci hE h3 u hu
theorem zS_cg {M : Nat → Int → Int} {f pl : Int} : ∀ {l : List (Int × (Int → Int))} {b : Int} {E : k_E} {s : k_s} {y : k_E × k_s}, sZ s → eZ (s.1 0) E → (∀ x ∈ l, u_z (s.1 0) x.2) → k_cg M f pl b l E s = .inr y → (zS s y.2 ∧ y.2.1 0 = s.1 0 ∧ y.2.1 1 = s.1 1) ∧ eZ (s.1 0) y.1
  | [], _, _, _, _, hs, hE, _, h => by cases h; exact ⟨⟨zS_rf hs, rfl, rfl⟩, hE⟩
  | x :: l, b, E, s, y, hs, hE, hl, h => by
    obtain ⟨t, h1, h2⟩ := k_b_inv (show k_b (k_rs M E pl (M 92 b)) _ = .inr y from h)
    obtain ⟨s1, h3, h4⟩ := k_b_inv h2
    obtain ⟨a1, a2, a3, a4⟩ := zS_ags hs h3
    obtain ⟨⟨b1, b2, b3⟩, b4⟩ := zS_cg a1.2.2.2 (by rw [a2]; exact eZ_c (hl x (List.mem_cons_self ..)) hE) (fun z hz => by rw [a2]; exact hl z (List.mem_cons_of_mem _ hz)) h4
    exact ⟨⟨zS_tr a1 b1, by rw [b2, a2], by rw [b3, a3]⟩, by rw [← a2]; exact b4⟩
theorem zS_cl {M : Nat → Int → Int} {f g pl : Int} {is : List (Int → Int)} {vs : List (Int × (Int → Int))} {s : k_s} {y : k_v} (hs : sZ s) (hi : ∀ h ∈ is, u_z (s.1 0) h) (hl : ∀ x ∈ vs, u_z (s.1 0) x.2) (h : k_cl M f g pl is vs s = .inr y) : zS s y.1 ∧ zV y := by
  unfold k_cl at h
  obtain ⟨ps, h1, h2⟩ := k_b_inv h
  obtain ⟨s1, h3, h4⟩ := k_b_inv h2
  obtain ⟨q, h5, h6⟩ := k_b_inv h4
  obtain ⟨t, h7, h8⟩ := k_b_inv h6
  obtain ⟨a1, a2, a3, a4⟩ := zS_ags hs h3
  have hE := eZ_en (M := M) (b := 4 * g) (E := []) hi (fun y hy => by cases hy)
  obtain ⟨⟨b1, b2, b3⟩, b4⟩ := zS_cg a1.2.2.2 (by rw [a2]; exact hE) (fun z hz => by rw [a2]; exact hl z hz) h5
  obtain ⟨c1, c2⟩ := zS_gv b1.2.2.2 (by rw [b2]; exact tZ_rs b4 h7) h8
  exact ⟨zS_tr a1 (zS_tr b1 c1), c2⟩
theorem zS_ca {M : Nat → Int → Int} {W : Int → k_s → k_o k_v} {v : Int} (hW : ∀ a s y, sZ s → v ≤ s.1 0 → W a s = .inr y → zS s y.1 ∧ zV y) : ∀ {n : Nat} {a b : Int} {s : k_s} {q : k_s × List (Int × (Int → Int))}, sZ s → v ≤ s.1 0 → k_ca M W a b n s = .inr q → zS s q.1 ∧ ∀ x ∈ q.2, u_z (q.1.1 0) x.2 ∧ (x.1 = 0 ∨ x.1 = 1)
  | 0, _, _, _, _, hs, _, h => by cases h; exact ⟨zS_rf hs, fun x hx => by cases hx⟩
  | n + 1, a, b, s, q, hs, hv, h => by
    obtain ⟨y, h1, h2⟩ := k_b_inv (show k_b (W (M 118 a) s) _ = .inr q from h)
    by_cases c : (y.2.1 = 1) ↔ (M 113 (M 92 b) = 3)
    · rw [if_pos c] at h2
      obtain ⟨q2, h3, h4⟩ := k_b_inv h2
      cases h4
      obtain ⟨a1, a2⟩ := hW _ _ _ hs hv h1
      obtain ⟨b1, b2⟩ := zS_ca hW a1.2.2.2 (by have := a1.1; omega) h3
      refine ⟨zS_tr a1 b1, fun x hx => ?_⟩
      rcases List.mem_cons.mp hx with rfl | hx
      · exact ⟨u_z_le a2.1 b1.1, a2.2⟩
      · exact b2 x hx
    · rw [if_neg c] at h2; cases h2
theorem eI_fl {ic w : Int} {x : Int × (Int → Int)} : ∀ {E : k_E}, eI ic E → k_fl w E = some x → x.1 = 1 ∨ x.1 = 2
  | [], _, h => by cases h
  | y :: l, q, h => by
    unfold k_fl at h
    split at h
    · rename_i c
      injection h with h
      rw [← h]
      rcases q.1 with z | z
      · exact z.2
      · omega
    · exact eI_fl q.2 h
theorem zS_ck {M : Nat → Int → Int} {fs f : Int} : ∀ {n : Nat} {w : Option k_h} {r : Int} {E : k_E} {s : k_s} {y : k_v}, sZ s → eZ (s.1 0) E → eI (M 88 f) E → M 88 f ≤ E.length → k_ck M fs f n w r E s = .inr y → zS s y.1 ∧ (w = none → zV y)
  | 0, _, _, _, _, _, _, _, _, _, h => by cases h
  | n + 1, w, r, E, s, y, hs, hE, hI, hl, h => by
    by_cases c12 : M 96 r = 12
    · rw [k_ck_12 c12] at h
      obtain ⟨a, h1, h2⟩ := k_b_inv h
      obtain ⟨a1, -⟩ := zS_ck hs hE hI hl h1
      obtain ⟨b1, b2⟩ := zS_ck a1.2.2.2 (eZ_le hE a1.1) hI hl h2
      exact ⟨zS_tr a1 b1, b2⟩
    by_cases c13 : M 96 r = 13
    · rw [k_ck_13 c13] at h
      obtain ⟨a, h1, h2⟩ := k_b_inv h
      try dsimp only at h2
      split at h2
      · cases h2
      · obtain ⟨a1, a2⟩ := zS_ck hs hE hI hl h1
        obtain ⟨a2, a3⟩ := a2 rfl
        obtain ⟨b1, b2⟩ := zS_ck a1.2.2.2 (eZ_c a2 (eZ_le hE a1.1)) ⟨.inl ⟨hl, by dsimp only; omega⟩, hI⟩ (by rw [List.length_cons]; omega) h2
        exact ⟨zS_tr a1 b1, b2⟩
    by_cases c14 : M 96 r = 14
    · rw [k_ck_if c14] at h
      obtain ⟨a, h1, h2⟩ := k_b_inv h
      obtain ⟨b, h3, h4⟩ := k_b_inv h2
      unfold k_i3 at h4
      obtain ⟨s1, h5, h6⟩ := k_b_inv h4
      obtain ⟨z, h7, h8⟩ := k_b_inv h6
      unfold k_i4 at h8
      obtain ⟨s2, h9, h10⟩ := k_b_inv h8
      obtain ⟨x, h11, h12⟩ := k_b_inv h10
      obtain ⟨a1, a2⟩ := zS_ck hs hE hI hl (kM_nm h1).1
      obtain ⟨b1, b2⟩ := zS_ck a1.2.2.2 (eZ_le hE a1.1) hI hl (kM_nm h3).1
      have ga := (a2 rfl).1
      have gb := (b2 rfl).1
      have gg : u_z (b.1.1 0) (k_p b.2.2 a.2.2 (-1)) := u_z_p gb (u_z_le ga b1.1)
      obtain ⟨d1, d2⟩ := zS_afs b1.2.2.2 (u_z_pd gg) h5
      have hE2 := eZ_le (eZ_le hE a1.1) b1.1
      obtain ⟨e1, e2⟩ := zS_ck d1.2.2.2 (by rw [d2]; exact hE2) hI hl h7
      obtain ⟨f1, f2, f3⟩ := zS_bk (zS_tr d1 e1) b1.2.2.2
      obtain ⟨g1, g2⟩ := zS_no f1.2.2.2 (by rw [f2]; exact gg) h9
      obtain ⟨i1, i2⟩ := zS_ck g1.2.2.2 (by rw [g2, f2]; exact hE2) hI hl h11
      obtain ⟨j1, j2, j3⟩ := zS_bk (zS_tr f1 (zS_tr g1 i1)) b1.2.2.2
      cases w with
      | some t =>
        cases h12
        exact ⟨zS_tr a1 (zS_tr b1 j1), fun q => by cases q⟩
      | none =>
        obtain ⟨l1, l2⟩ := zS_jn j1.2.2.2 j2 (e2 rfl).2 h12
        exact ⟨zS_tr a1 (zS_tr b1 (zS_tr j1 l1)), fun _ => l2⟩
    by_cases c15 : M 96 r = 15
    · rw [k_ck_15 c15] at h
      exact zS_ck hs hE hI hl h
    have hp : k_pk (M 96 r) := ⟨c12, c13, c14, c15⟩
    cases w with
    | some t =>
      rw [k_ck_s hp] at h
      obtain ⟨a, h1, h2⟩ := k_b_inv h
      try dsimp only at h2
      split at h2
      · obtain ⟨b, h3, h4⟩ := k_b_inv h2
        cases h4
        obtain ⟨a1, -⟩ := zS_ck hs hE hI hl h1
        obtain ⟨b1, -⟩ := zS_ags a1.2.2.2 h3
        exact ⟨zS_tr a1 b1, fun q => by cases q⟩
      · cases h2
    | none =>
      have one : ∀ {a : Int} {z : k_v} {pl : Int}, k_nm pl (k_ck M fs f n none a E s) = .inr z → zS s z.1 ∧ zV z := fun q => by
        obtain ⟨a1, a2⟩ := zS_ck hs hE hI hl (kM_nm q).1
        exact ⟨a1, a2 rfl⟩
      have two : ∀ {s1 : k_s} {a : Int} {z : k_v} {pl : Int}, zS s s1 → k_nm pl (k_ck M fs f n none a E s1) = .inr z → zS s1 z.1 ∧ zV z := fun g q => by
        obtain ⟨a1, a2⟩ := zS_ck g.2.2.2 (eZ_le hE g.1) hI hl (kM_nm q).1
        exact ⟨a1, a2 rfl⟩
      by_cases d0 : M 96 r = 0
      · rw [k_ck_n0 d0] at h
        cases h
        exact ⟨zS_rf hs, fun _ => ⟨u_z_n, .inl rfl⟩⟩
      by_cases d1 : M 96 r = 1
      · rw [k_ck_n1 d1] at h
        split at h
        · cases h
        · rename_i x hx
          cases h
          have := eI_fl hI hx
          have z := eZ_fl hE hx
          exact ⟨zS_rf hs, fun _ => ⟨z, by dsimp only; omega⟩⟩
      by_cases d5 : M 96 r = 5
      · rw [k_ck_n5 d5] at h
        split at h
        · cases h
        · rename_i x hx
          split at h
          · cases h
            have z := eZ_fl hE hx
            exact ⟨zS_rf hs, fun _ => ⟨z, .inl rfl⟩⟩
          · cases h
      by_cases d2 : M 96 r = 2 ∨ M 96 r = 3
      · rw [k_ck_n2 d2] at h
        split at h
        · cases h
        · split at h
          · obtain ⟨a, h1, h2⟩ := k_b_inv h
            obtain ⟨a1, a2⟩ := one h1
            try dsimp only at h2
            split at h2
            · obtain ⟨b1, b2⟩ := zS_ac a1.2.2.2 (fun x hx => by cases hx) h2
              exact ⟨zS_tr a1 b1, fun _ => b2⟩
            · obtain ⟨b, h3, h4⟩ := k_b_inv h2
              obtain ⟨b1, b2⟩ := two a1 h3
              obtain ⟨c1, c2⟩ := zS_ac b1.2.2.2 (fun x hx => by cases hx; exact b2.1) h4
              exact ⟨zS_tr a1 (zS_tr b1 c1), fun _ => c2⟩
          · cases h
      by_cases d4 : M 96 r = 4
      · rw [k_ck_n4 d4] at h
        split at h
        · cases h
        · split at h
          · cases h
          · obtain ⟨is, h1, h2⟩ := k_b_inv h
            obtain ⟨z, h3, h4⟩ := k_b_inv h2
            obtain ⟨a1, a2⟩ := zS_ca (v := s.1 0) (fun a s' y hs' hv q => by
              obtain ⟨b1, b2⟩ := zS_ck hs' (eZ_le hE hv) hI hl q
              exact ⟨b1, b2 rfl⟩) hs (Int.le_refl _) h3
            obtain ⟨b1, b2⟩ := zS_cl a1.2.2.2 (fun u hu => u_z_le (u_z_ci hE h1 u hu) a1.1) (fun x hx => (a2 x hx).1) h4
            exact ⟨zS_tr a1 b1, fun _ => b2⟩
      by_cases d6 : M 96 r = 6
      · rw [k_ck_n6 d6] at h
        obtain ⟨a, h1, h2⟩ := k_b_inv h
        obtain ⟨b, h3, h4⟩ := k_b_inv h2
        cases h4
        obtain ⟨a1, a2⟩ := one h1
        obtain ⟨b1, b2, -, -⟩ := zS_af a1.2.2.2 a2.1 h3
        exact ⟨zS_tr a1 b1, fun _ => ⟨by dsimp only; rw [b2]; exact a2.1, .inr rfl⟩⟩
      by_cases d7 : M 96 r = 7
      · rw [k_ck_n7 d7] at h
        obtain ⟨a1, a2⟩ := one h
        exact ⟨a1, fun _ => a2⟩
      by_cases d16 : M 96 r = 16
      · rw [k_ck_n16 d16] at h
        obtain ⟨t, h1, h2⟩ := k_b_inv h
        obtain ⟨z, h3, h4⟩ := k_b_inv h2
        obtain ⟨a1, -⟩ := zS_ck hs hE hI hl h3
        obtain ⟨b1, b2⟩ := zS_gv a1.2.2.2 (tZ_le (tZ_rs hE h1) a1.1) h4
        exact ⟨zS_tr a1 b1, fun _ => b2⟩
      rw [k_ck_ne hp ⟨d0, d1, d5, fun q => d2 (.inl q), fun q => d2 (.inr q), d4, d6, d7, d16⟩] at h
      obtain ⟨a, h1, h2⟩ := k_b_inv h
      obtain ⟨a1, a2⟩ := one h1
      try dsimp only at h2
      split at h2
      · obtain ⟨b1, b2⟩ := zS_dv a1.2.2.2 a2.1 h2
        exact ⟨zS_tr a1 b1, fun _ => b2⟩
      · obtain ⟨b, h3, h4⟩ := k_b_inv h2
        obtain ⟨b1, b2⟩ := two a1 h3
        obtain ⟨c1, c2⟩ := zS_tw b1.2.2.2 (u_z_le a2.1 b1.1) b2.1 h4
        exact ⟨zS_tr a1 (zS_tr b1 c1), fun _ => c2⟩

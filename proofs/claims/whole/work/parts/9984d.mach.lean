/-! THE MACHINE: each instruction, as far as it matters for what is right -/
section
variable {cd : Int → Int → Option (Int × Int)} {pn : Int → Int} {Z : m_T → Prop} {k : Nat} {S : m_T} {c f x h n : Int}
theorem m_op_0 : m_op pn 0 n S = (if S 6 0 = 200 then some (-11, S) else some (0, m_pu S n)) := rfl
theorem m_op_1 : m_op pn 1 n S = (if S 6 0 = 200 then some (-11, S) else if (0 ≤ n ∧ n < 10) ∧ S 7 (16 * (S 6 1 - 1) + n) = 1 then some (0, m_pu S (S 3 (16 * (S 6 1 - 1) + n))) else none) := rfl
theorem m_op_2 : m_op pn 2 n S = (if 0 < S 6 0 ∧ 0 ≤ n ∧ n < 10 then some (0, x_up (x_up (x_up S 6 0 (S 6 0 - 1)) 3 (16 * (S 6 1 - 1) + n) (S 0 (S 6 0 - 1))) 7 (16 * (S 6 1 - 1) + n) 1) else none) := rfl
theorem m_op_3 : m_op pn 3 n S = (if 0 < S 6 0 then some (0, x_up S 6 0 (S 6 0 - 1)) else none) := rfl
theorem m_op_4 {op : Int} (ho : op = 4 ∨ op = 5 ∨ op = 6) : m_op pn op n S = (if 1 < S 6 0 then m_ar op S else none) := by
  rcases ho with rfl | rfl | rfl <;> rfl
theorem m_op_7 : m_op pn 7 n S = (if 0 < S 6 0 ∧ 0 < n then some (0, x_up S 0 (S 6 0 - 1) (S 0 (S 6 0 - 1) / n)) else none) := rfl
theorem m_op_8 : m_op pn 8 n S = (if 0 < S 6 0 ∧ 0 ≤ S 0 (S 6 0 - 1) ∧ S 0 (S 6 0 - 1) < S 6 2 then some (0, x_up S 0 (S 6 0 - 1) (S 4 (S 0 (S 6 0 - 1)))) else none) := rfl
theorem m_op_9 : m_op pn 9 n S = (if 0 < S 6 0 ∧ 0 ≤ S 6 2 ∧ S 6 2 ≤ 600 then (if S 0 (S 6 0 - 1) < 0 then some (-13, S) else if 599 - S 6 2 < S 0 (S 6 0 - 1) then some (-14, S) else some (0, m_nr S (S 0 (S 6 0 - 1)))) else none) := rfl
theorem m_op_10 : m_op pn 10 n S = (if 1 < S 6 0 then m_a1 true 0 (S 0 (S 6 0 - 1)) (S 0 (S 6 0 - 2)) S else none) := rfl
theorem m_op_11 : m_op pn 11 n S = (if 1 < S 6 0 then m_a1 false 0 (S 0 (S 6 0 - 1)) (S 0 (S 6 0 - 2)) S else none) := rfl
theorem m_op_12 : m_op pn 12 n S = (if 2 < S 6 0 then m_a1 true 1 (S 0 (S 6 0 - 2)) (S 0 (S 6 0 - 3)) S else none) := rfl
theorem m_op_13 : m_op pn 13 n S = (if 2 < S 6 0 then m_a1 false 1 (S 0 (S 6 0 - 2)) (S 0 (S 6 0 - 3)) S else none) := rfl
theorem m_op_14 : m_op pn 14 n S = (if 0 < S 6 0 then some (0, x_up (if S 6 3 < 100 then x_up S 5 (S 6 3) (S 0 (S 6 0 - 1)) else S) 6 3 (S 6 3 + 1)) else none) := rfl
theorem m_op_15 : m_op pn 15 n S = (if S 6 1 = 60 then some (-11, S) else if 0 ≤ n ∧ n < 8 ∧ 0 ≤ pn n ∧ pn n ≤ 10 ∧ pn n ≤ S 6 0 then some (0, m_cl S n (pn n)) else none) := rfl
theorem m_op_16 : m_op pn 16 n S = some (0, x_up S 2 (S 6 1 - 1) n) := rfl
theorem m_op_22 : m_op pn 22 n S = some (if S 6 1 = 1 then 1 else 0, x_up S 6 1 (S 6 1 - 1)) := rfl
theorem m_op_17 {r : Int} (hr : 0 ≤ r ∧ r ≤ 4) : m_op pn (17 + r) n S = (if 1 < S 6 0 then some (0, x_up (if m_hb r (S 0 (S 6 0 - 2)) (S 0 (S 6 0 - 1)) = true then S else x_up S 2 (S 6 1 - 1) n) 6 0 (S 6 0 - 2)) else none) := by
  have h : r = 0 ∨ r = 1 ∨ r = 2 ∨ r = 3 ∨ r = 4 := by omega
  rcases h with rfl | rfl | rfl | rfl | rfl <;> rfl
/-- pile and place are new, all else that matters is as it was -/
def mK (c : Int) (S S' : m_T) : Prop := S' 1 = S 1 ∧ (∀ j, j < c - 1 → S' 2 j = S 2 j) ∧ (S' 3 = S 3 ∧ S' 7 = S 7) ∧ S' 4 = S 4 ∧ S' 6 2 = S 6 2
theorem mK_Q {l h' : Int} {S' : m_T} (hk : mK c S S') (hp : ∀ j, j < h' → S' 0 j = S 0 j) : mQ c h' l S S' := ⟨hp, fun j _ => by rw [hk.1], hk.2.1, fun j _ => by rw [hk.2.2.1.1], fun j q => by rw [hk.2.2.1.2]; exact q⟩
theorem mK_nx (hv : mV S c f x h) : mK c S (m_nx S) := ⟨m_nx_o (by decide) (by decide), fun j hj => by rw [m_nx_2 hv.1.1, if_neg (by omega)], ⟨m_nx_o (by decide) (by decide), m_nx_o (by decide) (by decide)⟩, m_nx_o (by decide) (by decide), m_nx_6 (by decide)⟩
theorem mV_nx (hv : mV S c f x h) : mV (m_nx S) c f (x + 1) h := by
  obtain ⟨⟨v1, v2⟩, ⟨v3, v4⟩, v5, v6⟩ := hv
  refine ⟨⟨by rw [m_nx_6 (by decide)]; exact v1, by rw [m_nx_6 (by decide)]; exact v2⟩, ⟨by rw [m_nx_o (by decide) (by decide)]; exact v3, ?_⟩, v5, v6⟩
  rw [m_nx_2 v1, if_pos rfl, v4]
theorem mP_nx : m_nx S 0 = S 0 := m_nx_o (by decide) (by decide)
theorem mK_tr {S1 S2 : m_T} (h1 : mK c S S1) (h2 : mK c S1 S2) : mK c S S2 := ⟨h2.1.trans h1.1, fun j hj => (h2.2.1 j hj).trans (h1.2.1 j hj), ⟨h2.2.2.1.1.trans h1.2.2.1.1, h2.2.2.1.2.trans h1.2.2.1.2⟩, h2.2.2.2.1.trans h1.2.2.2.1, h2.2.2.2.2.trans h1.2.2.2.2⟩
/-- something is pushed -/
theorem mV_pu {v : Int} (hv : mV S c f x h) (hh : h < 200) : mV (m_pu S v) c f x (h + 1) ∧ mK c S (m_pu S v) ∧ (∀ j, j < h → m_pu S v 0 j = S 0 j) ∧ m_pu S v 0 h = v := by
  obtain ⟨⟨v1, v2⟩, ⟨v3, v4⟩, v5, v6⟩ := hv
  unfold m_pu
  rw [v2]
  refine ⟨⟨⟨by rw [x_up_o (by decide), x_up_p (by decide)]; exact v1, x_up_s rfl⟩, ⟨by rw [x_up_p (by decide), x_up_p (by decide)]; exact v3, by rw [x_up_p (by decide), x_up_p (by decide)]; exact v4⟩, v5, by omega⟩, ⟨by rw [x_up_ne (by decide), x_up_ne (by decide)], fun j _ => by rw [x_up_p (by decide), x_up_p (by decide)], ⟨by rw [x_up_ne (by decide), x_up_ne (by decide)], by rw [x_up_ne (by decide), x_up_ne (by decide)]⟩, by rw [x_up_ne (by decide), x_up_ne (by decide)], by rw [x_up_o (by decide), x_up_p (by decide)]⟩, fun j hj => by rw [x_up_p (by decide), x_up_o (by omega)], by rw [x_up_p (by decide), x_up_s rfl]⟩
theorem gd_0 (hv : mV S c f x h) (hc : cd f x = some (0, n)) (K : ∀ k', k' ≤ k → ∀ S', mV S' c f (x + 1) (h + 1) → mK c S S' → (∀ j, j < h → S' 0 j = S 0 j) → S' 0 h = n → m_G cd pn Z k' S') : m_G cd pn Z k S := by
  have hn := mV_nx hv
  by_cases q : h = 200
  · exact m_go hv hc (by rw [m_op_0, hn.1.2, if_pos q]) (fun e => by cases e) (fun e => by cases e)
  · obtain ⟨a1, a2, a3, a4⟩ := mV_pu (v := n) hn (by have := hv.2.2.2; omega)
    exact m_go hv hc (oe := 0) (U := m_pu (m_nx S) n) (by rw [m_op_0, hn.1.2, if_neg q]) (fun _ k' hk => K k' (by omega) _ a1 (mK_tr (mK_nx hv) a2) (fun j hj => by rw [a3 j hj, mP_nx]) a4) (fun e => by cases e)
theorem gd_1 (hv : mV S c f x h) (hc : cd f x = some (1, n)) (hn' : 0 ≤ n ∧ n < 10) (h7 : S 7 (16 * (c - 1) + n) = 1) (K : ∀ k', k' ≤ k → ∀ S', mV S' c f (x + 1) (h + 1) → mK c S S' → (∀ j, j < h → S' 0 j = S 0 j) → S' 0 h = S 3 (16 * (c - 1) + n) → m_G cd pn Z k' S') : m_G cd pn Z k S := by
  have hn := mV_nx hv
  by_cases q : h = 200
  · exact m_go hv hc (by rw [m_op_1, hn.1.2, if_pos q]) (fun e => by cases e) (fun e => by cases e)
  · obtain ⟨a1, a2, a3, a4⟩ := mV_pu (v := S 3 (16 * (c - 1) + n)) hn (by have := hv.2.2.2; omega)
    refine m_go hv hc (oe := 0) (U := m_pu (m_nx S) (S 3 (16 * (c - 1) + n))) (by rw [m_op_1, hn.1.2, if_neg q, hn.1.1, m_nx_o (q := 7) (by decide) (by decide), if_pos ⟨hn', h7⟩, m_nx_o (q := 3) (by decide) (by decide)]) (fun _ k' hk => K k' (by omega) _ a1 (mK_tr (mK_nx hv) a2) (fun j hj => by rw [a3 j hj, mP_nx]) a4) (fun e => by cases e)
/-- the top is changed -/
theorem mV_tp {v : Int} (hv : mV S c f x h) : mV (x_up S 0 (h - 1) v) c f x h ∧ mK c S (x_up S 0 (h - 1) v) ∧ (∀ j, j < h - 1 → x_up S 0 (h - 1) v 0 j = S 0 j) ∧ x_up S 0 (h - 1) v 0 (h - 1) = v := by
  obtain ⟨⟨v1, v2⟩, ⟨v3, v4⟩, v5, v6⟩ := hv
  exact ⟨⟨⟨by rw [x_up_p (by decide)]; exact v1, by rw [x_up_p (by decide)]; exact v2⟩, ⟨by rw [x_up_p (by decide)]; exact v3, by rw [x_up_p (by decide)]; exact v4⟩, v5, v6⟩, ⟨x_up_ne (by decide), fun j _ => x_up_p (by decide), ⟨x_up_ne (by decide), x_up_ne (by decide)⟩, x_up_ne (by decide), x_up_p (by decide)⟩, fun j hj => x_up_o (by omega), x_up_s rfl⟩
/-- so many are left -/
theorem mV_ht {h' : Int} (hv : mV S c f x h) (hh : 0 ≤ h' ∧ h' ≤ h) : mV (x_up S 6 0 h') c f x h' ∧ mK c S (x_up S 6 0 h') ∧ x_up S 6 0 h' 0 = S 0 := by
  obtain ⟨⟨v1, v2⟩, ⟨v3, v4⟩, v5, v6⟩ := hv
  exact ⟨⟨⟨by rw [x_up_o (by decide)]; exact v1, x_up_s rfl⟩, ⟨by rw [x_up_p (by decide)]; exact v3, by rw [x_up_p (by decide)]; exact v4⟩, v5, by omega⟩, ⟨x_up_ne (by decide), fun j _ => x_up_p (by decide), ⟨x_up_ne (by decide), x_up_ne (by decide)⟩, x_up_ne (by decide), x_up_o (by decide)⟩, x_up_ne (by decide)⟩
theorem gd_2 (hv : mV S c f x h) (hc : cd f x = some (2, n)) (hn' : 0 ≤ n ∧ n < 10) (hh : 0 < h) (K : ∀ k', k' ≤ k → ∀ S', mV S' c f (x + 1) (h - 1) → (∀ j, j < h → S' 0 j = S 0 j) → S' 1 = S 1 → (∀ j, j < c - 1 → S' 2 j = S 2 j) → S' 4 = S 4 → S' 6 2 = S 6 2 → S' 3 (16 * (c - 1) + n) = S 0 (h - 1) → (∀ j, j ≠ 16 * (c - 1) + n → S' 3 j = S 3 j) → S' 7 (16 * (c - 1) + n) = 1 → (∀ j, S 7 j = 1 → S' 7 j = 1) → m_G cd pn Z k' S') : m_G cd pn Z k S := by
  have hn := mV_nx hv
  obtain ⟨a1, a2, a3⟩ := mV_ht (h' := h - 1) hn (by omega)
  have a4 := mK_tr (mK_nx hv) a2
  refine m_go hv hc (oe := 0) (U := x_up (x_up (x_up (m_nx S) 6 0 (h - 1)) 3 (16 * (c - 1) + n) (S 0 (h - 1))) 7 (16 * (c - 1) + n) 1) (by rw [m_op_2, hn.1.2, if_pos ⟨hh, hn'⟩, hn.1.1, mP_nx]) (fun _ k' hk => K k' (by omega) _ ?_ ?_ ?_ ?_ ?_ ?_ (by rw [x_up_p (by decide), x_up_s rfl]) ?_ (x_up_s rfl) ?_) (fun e => by cases e)
  · obtain ⟨⟨v1, v2⟩, ⟨v3, v4⟩, v5, v6⟩ := a1
    exact ⟨⟨by rw [x_up_p (by decide), x_up_p (by decide)]; exact v1, by rw [x_up_p (by decide), x_up_p (by decide)]; exact v2⟩, ⟨by rw [x_up_p (by decide), x_up_p (by decide)]; exact v3, by rw [x_up_p (by decide), x_up_p (by decide)]; exact v4⟩, v5, v6⟩
  · exact fun j _ => by rw [x_up_p (by decide), x_up_p (by decide), a3, mP_nx]
  · rw [x_up_ne (by decide), x_up_ne (by decide)]; exact a4.1
  · exact fun j hj => by rw [x_up_p (by decide), x_up_p (by decide)]; exact a4.2.1 j hj
  · rw [x_up_ne (by decide), x_up_ne (by decide)]; exact a4.2.2.2.1
  · rw [x_up_p (by decide), x_up_p (by decide)]; exact a4.2.2.2.2
  · exact fun j hj => by rw [x_up_p (by decide), x_up_o hj, a4.2.2.1.1]
  · intro j q
    by_cases e : j = 16 * (c - 1) + n
    · exact x_up_s e
    · rw [x_up_o e, x_up_p (by decide), a4.2.2.1.2]; exact q
theorem gd_3 (hv : mV S c f x h) (hc : cd f x = some (3, n)) (hh : 0 < h) (K : ∀ k', k' ≤ k → ∀ S', mV S' c f (x + 1) (h - 1) → mK c S S' → (∀ j, j < h - 1 → S' 0 j = S 0 j) → m_G cd pn Z k' S') : m_G cd pn Z k S := by
  have hn := mV_nx hv
  obtain ⟨a1, a2, a3⟩ := mV_ht (h' := h - 1) hn (by omega)
  exact m_go hv hc (oe := 0) (U := x_up (m_nx S) 6 0 (h - 1)) (by rw [m_op_3, hn.1.2, if_pos hh]) (fun _ k' hk => K k' (by omega) _ a1 (mK_tr (mK_nx hv) a2) (fun j _ => by rw [a3, mP_nx])) (fun e => by cases e)
theorem gd_4 {op : Int} (ho : op = 4 ∨ op = 5 ∨ op = 6) (hv : mV S c f x h) (hc : cd f x = some (op, n)) (hh : 1 < h) (K : ∀ k', k' ≤ k → ∀ S', mV S' c f (x + 1) (h - 1) → mK c S S' → (∀ j, j < h - 2 → S' 0 j = S 0 j) → S' 0 (h - 2) = m_av op (S 0 (h - 2)) (S 0 (h - 1)) → m_G cd pn Z k' S') : m_G cd pn Z k S := by
  have hn := mV_nx hv
  by_cases q : -1000000000 ≤ m_av op (S 0 (h - 2)) (S 0 (h - 1)) ∧ m_av op (S 0 (h - 2)) (S 0 (h - 1)) ≤ 1000000000
  · obtain ⟨b1, b2, b3⟩ := mV_ht (h' := h - 1) hn (by omega)
    obtain ⟨a1, a2, a3, a4⟩ := mV_tp (v := m_av op (S 0 (h - 2)) (S 0 (h - 1))) b1
    refine m_go hv hc (oe := 0) (U := x_up (x_up (m_nx S) 0 (h - 2) (m_av op (S 0 (h - 2)) (S 0 (h - 1)))) 6 0 (h - 1)) (by rw [m_op_4 ho, hn.1.2, if_pos hh]; unfold m_ar; rw [hn.1.2, mP_nx, if_pos q]) (fun _ k' hk => ?_) (fun e => by cases e)
    have e : x_up (x_up (m_nx S) 0 (h - 2) (m_av op (S 0 (h - 2)) (S 0 (h - 1)))) 6 0 (h - 1) = x_up (x_up (m_nx S) 6 0 (h - 1)) 0 (h - 1 - 1) (m_av op (S 0 (h - 2)) (S 0 (h - 1))) := by
      funext p j
      unfold x_up
      rw [show h - 1 - 1 = h - 2 by omega]
      by_cases p6 : p = 6 ∧ j = 0
      · rw [if_pos p6, if_neg (by omega), if_pos p6]
      · rw [if_neg p6]
        by_cases p0 : p = 0 ∧ j = h - 2
        · rw [if_pos p0, if_pos p0]
        · rw [if_neg p0, if_neg p0, if_neg p6]
    rw [e]
    refine K k' (by omega) _ a1 (mK_tr (mK_nx hv) (mK_tr b2 a2)) (fun j hj => by rw [a3 j (by omega), b3, mP_nx]) ?_
    rw [show h - 2 = h - 1 - 1 by omega]
    rw [show h - 1 - 1 = h - 2 by omega] at a4 ⊢
    exact a4
  · exact m_go hv hc (by rw [m_op_4 ho, hn.1.2, if_pos hh]; unfold m_ar; rw [hn.1.2, mP_nx, if_neg q]) (fun e => by cases e) (fun e => by cases e)
theorem gd_7 (hv : mV S c f x h) (hc : cd f x = some (7, n)) (hh : 0 < h) (hn' : 0 < n) (K : ∀ k', k' ≤ k → ∀ S', mV S' c f (x + 1) h → mK c S S' → (∀ j, j < h - 1 → S' 0 j = S 0 j) → S' 0 (h - 1) = S 0 (h - 1) / n → m_G cd pn Z k' S') : m_G cd pn Z k S := by
  have hn := mV_nx hv
  obtain ⟨a1, a2, a3, a4⟩ := mV_tp (v := S 0 (h - 1) / n) hn
  exact m_go hv hc (oe := 0) (U := x_up (m_nx S) 0 (h - 1) (S 0 (h - 1) / n)) (by rw [m_op_7, hn.1.2, if_pos ⟨hh, hn'⟩, mP_nx]) (fun _ k' hk => K k' (by omega) _ a1 (mK_tr (mK_nx hv) a2) (fun j hj => by rw [a3 j hj, mP_nx]) a4) (fun e => by cases e)
theorem gd_8 (hv : mV S c f x h) (hc : cd f x = some (8, n)) (hh : 0 < h) (hn' : 0 ≤ S 0 (h - 1) ∧ S 0 (h - 1) < S 6 2) (K : ∀ k', k' ≤ k → ∀ S', mV S' c f (x + 1) h → mK c S S' → (∀ j, j < h - 1 → S' 0 j = S 0 j) → S' 0 (h - 1) = S 4 (S 0 (h - 1)) → m_G cd pn Z k' S') : m_G cd pn Z k S := by
  have hn := mV_nx hv
  obtain ⟨a1, a2, a3, a4⟩ := mV_tp (v := S 4 (S 0 (h - 1))) hn
  exact m_go hv hc (oe := 0) (U := x_up (m_nx S) 0 (h - 1) (S 4 (S 0 (h - 1)))) (by rw [m_op_8, hn.1.2, mP_nx, m_nx_6 (n := 2) (by decide), if_pos ⟨hh, hn'⟩, m_nx_o (q := 4) (by decide) (by decide)]) (fun _ k' hk => K k' (by omega) _ a1 (mK_tr (mK_nx hv) a2) (fun j hj => by rw [a3 j hj, mP_nx]) a4) (fun e => by cases e)
theorem gd_9 (hv : mV S c f x h) (hc : cd f x = some (9, n)) (hh : 0 < h) (ht : 0 ≤ S 6 2 ∧ S 6 2 ≤ 600) (K : ∀ k', k' ≤ k → 0 ≤ S 0 (h - 1) → S 6 2 + 1 + S 0 (h - 1) ≤ 600 → ∀ S', mV S' c f (x + 1) h → (∀ j, j < h - 1 → S' 0 j = S 0 j) → S' 0 (h - 1) = S 6 2 → S' 1 = S 1 → (∀ j, j < c - 1 → S' 2 j = S 2 j) → S' 3 = S 3 ∧ S' 7 = S 7 → S' 6 2 = S 6 2 + 1 + S 0 (h - 1) → S' 4 (S 6 2) = S 0 (h - 1) → (∀ j, j < S 6 2 → S' 4 j = S 4 j) → m_G cd pn Z k' S') : m_G cd pn Z k S := by
  have hn := mV_nx hv
  have t2 : m_nx S 6 2 = S 6 2 := m_nx_6 (by decide)
  by_cases q : S 0 (h - 1) < 0
  · exact m_go hv hc (by rw [m_op_9, hn.1.2, t2, mP_nx, if_pos ⟨hh, ht⟩, if_pos q]) (fun e => by cases e) (fun e => by cases e)
  · by_cases q2 : 599 - S 6 2 < S 0 (h - 1)
    · exact m_go hv hc (by rw [m_op_9, hn.1.2, t2, mP_nx, if_pos ⟨hh, ht⟩, if_neg q, if_pos q2]) (fun e => by cases e) (fun e => by cases e)
    · refine m_go hv hc (oe := 0) (U := m_nr (m_nx S) (S 0 (h - 1))) (by rw [m_op_9, hn.1.2, t2, mP_nx, if_pos ⟨hh, ht⟩, if_neg q, if_neg q2]) (fun _ k' hk => ?_) (fun e => by cases e)
      unfold m_nr
      rw [t2, hn.1.2]
      obtain ⟨⟨v1, v2⟩, ⟨v3, v4⟩, v5, v6⟩ := hn
      have kn := mK_nx hv
      refine K k' (by omega) (by omega) (by omega) _ ⟨⟨?_, ?_⟩, ⟨?_, ?_⟩, v5, v6⟩ (fun j hj => ?_) ?_ ?_ (fun j hj => ?_) ?_ (x_up_s rfl) ?_ (fun j hj => ?_)
      · rw [x_up_o (by decide), x_up_p (by decide), x_fill_p (by decide), x_up_p (by decide)]; exact v1
      · rw [x_up_o (by decide), x_up_p (by decide), x_fill_p (by decide), x_up_p (by decide)]; exact v2
      · rw [x_up_p (by decide), x_up_p (by decide), x_fill_p (by decide), x_up_p (by decide)]; exact v3
      · rw [x_up_p (by decide), x_up_p (by decide), x_fill_p (by decide), x_up_p (by decide)]; exact v4
      · rw [x_up_p (by decide), x_up_o (by omega), x_fill_p (by decide), x_up_p (by decide), mP_nx]
      · rw [x_up_p (by decide), x_up_s rfl]
      · funext j; rw [x_up_p (by decide), x_up_p (by decide), x_fill_p (by decide), x_up_p (by decide), kn.1]
      · rw [x_up_p (by decide), x_up_p (by decide), x_fill_p (by decide), x_up_p (by decide), kn.2.1 j hj]
      · exact ⟨by funext j; rw [x_up_p (by decide), x_up_p (by decide), x_fill_p (by decide), x_up_p (by decide), kn.2.2.1.1], by funext j; rw [x_up_p (by decide), x_up_p (by decide), x_fill_p (by decide), x_up_p (by decide), kn.2.2.1.2]⟩
      · rw [x_up_p (by decide), x_up_p (by decide), x_fill_o (by omega), x_up_s rfl]
      · rw [x_up_p (by decide), x_up_p (by decide), x_fill_o (by omega), x_up_o (by omega), kn.2.2.2.1]
/-- an access: g is 1 where it changes -/
theorem mV_a2 {g a : Int} (hv : mV S c f x h) (hg : g = 0 ∨ g = 1) (hh : 1 + g < h) : mV (m_a2 g a S) c f x (h - 1 - g) ∧ (∀ j, j < h - 2 - g → m_a2 g a S 0 j = S 0 j) ∧ (m_a2 g a S 0 (h - 2 - g) = if g = 1 then S 0 (h - 1) else S 4 a) ∧ m_a2 g a S 1 = S 1 ∧ m_a2 g a S 2 = S 2 ∧ (m_a2 g a S 3 = S 3 ∧ m_a2 g a S 7 = S 7) ∧ m_a2 g a S 6 2 = S 6 2 ∧ ∀ j, j ≠ a → m_a2 g a S 4 j = S 4 j := by
  obtain ⟨⟨v1, v2⟩, ⟨v3, v4⟩, v5, v6⟩ := hv
  have e : ∀ (q : Nat) (j : Int), (q ≠ 6 ∨ j ≠ 5) → (q ≠ 4 ∨ j ≠ a) → (if g = 1 then x_up (x_up S 6 5 (S 6 5 + 1)) 4 a (S 0 (S 6 0 - 1)) else x_up S 6 5 (S 6 5 + 1)) q j = S q j := fun q j q1 q2 => by
    split
    · unfold x_up
      rw [if_neg (by omega), if_neg (by omega)]
    · unfold x_up
      rw [if_neg (by omega)]
  unfold m_a2
  generalize (if g = 1 then x_up (x_up S 6 5 (S 6 5 + 1)) 4 a (S 0 (S 6 0 - 1)) else x_up S 6 5 (S 6 5 + 1)) = U at e
  rw [v2]
  refine ⟨⟨⟨?_, x_up_s rfl⟩, ⟨?_, ?_⟩, v5, by omega⟩, fun j hj => ?_, ?_, ?_, ?_, ?_, ?_, fun j hj => ?_⟩
  · rw [x_up_o (by decide), x_up_p (by decide), e 6 1 (by omega) (by omega)]; exact v1
  · rw [x_up_p (by decide), x_up_p (by decide), e 1 _ (by omega) (by omega)]; exact v3
  · rw [x_up_p (by decide), x_up_p (by decide), e 2 _ (by omega) (by omega)]; exact v4
  · rw [x_up_p (by decide), x_up_o (by omega), e 0 _ (by omega) (by omega)]
  · rw [x_up_p (by decide), x_up_s rfl]
  · funext j; rw [x_up_p (by decide), x_up_p (by decide), e 1 _ (by omega) (by omega)]
  · funext j; rw [x_up_p (by decide), x_up_p (by decide), e 2 _ (by omega) (by omega)]
  · exact ⟨by funext j; rw [x_up_p (by decide), x_up_p (by decide), e 3 _ (by omega) (by omega)], by funext j; rw [x_up_p (by decide), x_up_p (by decide), e 7 _ (by omega) (by omega)]⟩
  · rw [x_up_o (by decide), x_up_p (by decide), e 6 2 (by omega) (by omega)]
  · rw [x_up_p (by decide), x_up_p (by decide), e 4 j (by omega) (by omega)]
/-- what is left of an access -/
def mA (c f x h g a : Int) (S S' : m_T) : Prop := mV S' c f x (h - 1 - g) ∧ (∀ j, j < h - 2 - g → S' 0 j = S 0 j) ∧ (S' 0 (h - 2 - g) = if g = 1 then S 0 (h - 1) else S 4 a) ∧ S' 1 = S 1 ∧ (∀ j, j < c - 1 → S' 2 j = S 2 j) ∧ (S' 3 = S 3 ∧ S' 7 = S 7) ∧ S' 6 2 = S 6 2 ∧ ∀ j, j ≠ a → S' 4 j = S 4 j
theorem gd_a {g op i row : Int} (hop : (g = 0 ∧ (op = 10 ∨ op = 11)) ∨ (g = 1 ∧ (op = 12 ∨ op = 13))) (hv : mV S c f x h) (hc : cd f x = some (op, n)) (hh : 1 + g < h) (hi : S 0 (h - 1 - g) = i) (hr : S 0 (h - 2 - g) = row) (h0 : 0 ≤ row ∧ row < S 6 2 ∧ row + 1 + S 4 row ≤ S 6 2) (hfree : op = 11 ∨ op = 13 → 0 ≤ i ∧ i < S 4 row) (K : ∀ k', k' ≤ k → 0 ≤ i → i < S 4 row → ∀ S', mA c f (x + 1) h g (row + 1 + i) S S' → m_G cd pn Z k' S') : m_G cd pn Z k S := by
  have hn := mV_nx hv
  have kn := mK_nx hv
  have hg : g = 0 ∨ g = 1 := by omega
  have fin : ∀ U : m_T, mV U c f (x + 1) h → U 0 = S 0 → U 4 = S 4 → U 1 = S 1 → (∀ j, j < c - 1 → U 2 j = S 2 j) → U 3 = S 3 ∧ U 7 = S 7 → U 6 2 = S 6 2 → mA c f (x + 1) h g (row + 1 + i) S (m_a2 g (row + 1 + i) U) := fun U u1 u2 u3 u4 u5 u6 u7 => by
    obtain ⟨b1, b2, b3, b4, b5, b6, b7, b8⟩ := mV_a2 (a := row + 1 + i) u1 hg hh
    exact ⟨b1, fun j hj => by rw [b2 j hj, u2], by rw [b3, u2, u3], by rw [b4, u4], fun j hj => by rw [b5, u5 j hj], ⟨by rw [b6.1, u6.1], by rw [b6.2, u6.2]⟩, by rw [b7, u7], fun j hj => by rw [b8 j hj, u3]⟩
  have f1 := fin (m_nx S) hn mP_nx kn.2.2.2.1 kn.1 kn.2.1 kn.2.2.1 kn.2.2.2.2
  have f2 := fin (x_up (m_nx S) 6 4 (m_nx S 6 4 + 1)) (by
    obtain ⟨⟨v1, v2⟩, ⟨v3, v4⟩, v5, v6⟩ := hn
    exact ⟨⟨by rw [x_up_o (by decide)]; exact v1, by rw [x_up_o (by decide)]; exact v2⟩, ⟨by rw [x_up_p (by decide)]; exact v3, by rw [x_up_p (by decide)]; exact v4⟩, v5, v6⟩) (by rw [x_up_ne (by decide), mP_nx]) (by rw [x_up_ne (by decide)]; exact kn.2.2.2.1) (by rw [x_up_ne (by decide)]; exact kn.1) (fun j hj => by rw [x_up_p (by decide)]; exact kn.2.1 j hj) ⟨by rw [x_up_ne (by decide)]; exact kn.2.2.1.1, by rw [x_up_ne (by decide)]; exact kn.2.2.1.2⟩ (by rw [x_up_o (by decide)]; exact kn.2.2.2.2)
  have n4 : m_nx S 4 = S 4 := kn.2.2.2.1
  have n2 : m_nx S 6 2 = S 6 2 := kn.2.2.2.2
  have chk : ∀ o2, m_op pn op n (m_nx S) = m_a1 o2 g i row (m_nx S) → (o2 = false → 0 ≤ i ∧ i < S 4 row) → m_G cd pn Z k S := fun o2 e hf => by
    cases o2 with
    | true =>
      by_cases q : 0 ≤ i ∧ i < S 4 row
      · exact m_go hv hc (by rw [e]; unfold m_a1; rw [if_pos rfl, n2, if_pos (by omega), n4, if_pos q, if_pos (by omega)]) (fun _ k' hk => K k' (by omega) q.1 q.2 _ f2) (fun e => by cases e)
      · exact m_go hv hc (by rw [e]; unfold m_a1; rw [if_pos rfl, n2, if_pos (by omega), n4, if_neg q]) (fun e => by cases e) (fun e => by cases e)
    | false =>
      have q := hf rfl
      exact m_go hv hc (by rw [e]; unfold m_a1; rw [if_neg (by decide), n2, if_pos (by omega)]) (fun _ k' hk => K k' (by omega) q.1 q.2 _ f1) (fun e => by cases e)
  rcases hop with ⟨rfl, rfl | rfl⟩ | ⟨rfl, rfl | rfl⟩
  · refine chk true ?_ (fun e => by cases e)
    rw [m_op_10, hn.1.2, if_pos (by omega), mP_nx]
    rw [show h - 1 - 0 = h - 1 by omega] at hi
    rw [show h - 2 - 0 = h - 2 by omega] at hr
    rw [hi, hr]
  · refine chk false ?_ (fun _ => hfree (.inl rfl))
    rw [m_op_11, hn.1.2, if_pos (by omega), mP_nx]
    rw [show h - 1 - 0 = h - 1 by omega] at hi
    rw [show h - 2 - 0 = h - 2 by omega] at hr
    rw [hi, hr]
  · refine chk true ?_ (fun e => by cases e)
    rw [m_op_12, hn.1.2, if_pos (by omega), mP_nx]
    rw [show h - 1 - 1 = h - 2 by omega] at hi
    rw [show h - 2 - 1 = h - 3 by omega] at hr
    rw [hi, hr]
  · refine chk false ?_ (fun _ => hfree (.inr rfl))
    rw [m_op_13, hn.1.2, if_pos (by omega), mP_nx]
    rw [show h - 1 - 1 = h - 2 by omega] at hi
    rw [show h - 2 - 1 = h - 3 by omega] at hr
    rw [hi, hr]
theorem gd_14 (hv : mV S c f x h) (hc : cd f x = some (14, n)) (hh : 0 < h) (K : ∀ k', k' ≤ k → ∀ S', mV S' c f (x + 1) h → mK c S S' → S' 0 = S 0 → m_G cd pn Z k' S') : m_G cd pn Z k S := by
  have hn := mV_nx hv
  have kn := mK_nx hv
  have t3 : m_nx S 6 3 = S 6 3 := m_nx_6 (by decide)
  refine m_go hv hc (oe := 0) (U := x_up (if S 6 3 < 100 then x_up (m_nx S) 5 (S 6 3) (m_nx S 0 (h - 1)) else m_nx S) 6 3 (S 6 3 + 1)) (by rw [m_op_14, hn.1.2, t3, if_pos hh]) (fun _ k' hk => ?_) (fun e => by cases e)
  have e : ∀ (q : Nat) (j : Int), q ≠ 5 → (if S 6 3 < 100 then x_up (m_nx S) 5 (S 6 3) (m_nx S 0 (h - 1)) else m_nx S) q j = m_nx S q j := fun q j hq => by
    split
    · exact x_up_p hq
    · rfl
  generalize (if S 6 3 < 100 then x_up (m_nx S) 5 (S 6 3) (m_nx S 0 (h - 1)) else m_nx S) = U at e
  have eq : ∀ q : Nat, q ≠ 5 → q ≠ 6 → x_up U 6 3 (S 6 3 + 1) q = m_nx S q := fun q h5 h6 => by
    funext j
    rw [x_up_p h6, e q j h5]
  have e6 : ∀ j : Int, j ≠ 3 → x_up U 6 3 (S 6 3 + 1) 6 j = m_nx S 6 j := fun j hj => by rw [x_up_o hj, e 6 j (by decide)]
  obtain ⟨⟨v1, v2⟩, ⟨v3, v4⟩, v5, v6⟩ := hn
  refine K k' (by omega) _ ⟨⟨by rw [e6 1 (by decide)]; exact v1, by rw [e6 0 (by decide)]; exact v2⟩, ⟨by rw [eq 1 (by decide) (by decide)]; exact v3, by rw [eq 2 (by decide) (by decide)]; exact v4⟩, v5, v6⟩ (mK_tr kn ⟨eq 1 (by decide) (by decide), fun j _ => by rw [eq 2 (by decide) (by decide)], ⟨eq 3 (by decide) (by decide), eq 7 (by decide) (by decide)⟩, eq 4 (by decide) (by decide), e6 2 (by decide)⟩) (by rw [eq 0 (by decide) (by decide), mP_nx])
theorem gd_16 (hv : mV S c f x h) (hc : cd f x = some (16, n)) (K : ∀ k', k' ≤ k → ∀ S', mV S' c f n h → mK c S S' → S' 0 = S 0 → m_G cd pn Z k' S') : m_G cd pn Z k S := by
  have hn := mV_nx hv
  have kn := mK_nx hv
  refine m_go hv hc (oe := 0) (U := x_up (m_nx S) 2 (c - 1) n) (by rw [m_op_16, hn.1.1]) (fun _ k' hk => ?_) (fun e => by cases e)
  obtain ⟨⟨v1, v2⟩, ⟨v3, v4⟩, v5, v6⟩ := hn
  exact K k' (by omega) _ ⟨⟨by rw [x_up_p (by decide)]; exact v1, by rw [x_up_p (by decide)]; exact v2⟩, ⟨by rw [x_up_p (by decide)]; exact v3, x_up_s rfl⟩, v5, v6⟩ ⟨by rw [x_up_ne (by decide)]; exact kn.1, fun j hj => by rw [x_up_o (by omega)]; exact kn.2.1 j hj, ⟨by rw [x_up_ne (by decide)]; exact kn.2.2.1.1, by rw [x_up_ne (by decide)]; exact kn.2.2.1.2⟩, by rw [x_up_ne (by decide)]; exact kn.2.2.2.1, by rw [x_up_p (by decide)]; exact kn.2.2.2.2⟩ (by rw [x_up_ne (by decide), mP_nx])
theorem gd_17 {r : Int} (hr : 0 ≤ r ∧ r ≤ 4) (hv : mV S c f x h) (hc : cd f x = some (17 + r, n)) (hh : 1 < h) (K : ∀ k', k' ≤ k → ∀ S', mV S' c f (if m_hb r (S 0 (h - 2)) (S 0 (h - 1)) = true then x + 1 else n) (h - 2) → mK c S S' → (∀ j, j < h - 2 → S' 0 j = S 0 j) → m_G cd pn Z k' S') : m_G cd pn Z k S := by
  have hn := mV_nx hv
  have kn := mK_nx hv
  by_cases q : m_hb r (S 0 (h - 2)) (S 0 (h - 1)) = true
  · rw [if_pos q] at K
    obtain ⟨a1, a2, a3⟩ := mV_ht (h' := h - 2) hn (by omega)
    exact m_go hv hc (oe := 0) (U := x_up (m_nx S) 6 0 (h - 2)) (by rw [m_op_17 hr, hn.1.2, if_pos hh, mP_nx, if_pos q]) (fun _ k' hk => K k' (by omega) _ a1 (mK_tr kn a2) (fun j _ => by rw [a3, mP_nx])) (fun e => by cases e)
  · rw [if_neg q] at K
    have b : mV (x_up (m_nx S) 2 (c - 1) n) c f n h ∧ mK c S (x_up (m_nx S) 2 (c - 1) n) ∧ x_up (m_nx S) 2 (c - 1) n 0 = S 0 := by
      obtain ⟨⟨v1, v2⟩, ⟨v3, v4⟩, v5, v6⟩ := id hn
      exact ⟨⟨⟨by rw [x_up_p (by decide)]; exact v1, by rw [x_up_p (by decide)]; exact v2⟩, ⟨by rw [x_up_p (by decide)]; exact v3, x_up_s rfl⟩, v5, v6⟩, ⟨by rw [x_up_ne (by decide)]; exact kn.1, fun j hj => by rw [x_up_o (by omega)]; exact kn.2.1 j hj, ⟨by rw [x_up_ne (by decide)]; exact kn.2.2.1.1, by rw [x_up_ne (by decide)]; exact kn.2.2.1.2⟩, by rw [x_up_ne (by decide)]; exact kn.2.2.2.1, by rw [x_up_p (by decide)]; exact kn.2.2.2.2⟩, by rw [x_up_ne (by decide), mP_nx]⟩
    obtain ⟨a1, a2, a3⟩ := mV_ht (h' := h - 2) b.1 (by omega)
    exact m_go hv hc (oe := 0) (U := x_up (x_up (m_nx S) 2 (c - 1) n) 6 0 (h - 2)) (by rw [m_op_17 hr, hn.1.2, if_pos hh, mP_nx, if_neg q, hn.1.1]) (fun _ k' hk => K k' (by omega) _ a1 (mK_tr b.2.1 a2) (fun j _ => by rw [a3, b.2.2])) (fun e => by cases e)
/-- a call -/
theorem gd_15 (hv : mV S c f x h) (hc : cd f x = some (15, n)) (hn' : 0 ≤ n ∧ n < 8) (hp : 0 ≤ pn n ∧ pn n ≤ 10 ∧ pn n ≤ h) (K : ∀ k', k' < k → c < 60 → ∀ S', mV S' (c + 1) n 0 (h - pn n) → (∀ j, j < h - pn n → S' 0 j = S 0 j) → (∀ j, j < c → S' 1 j = S 1 j) → (∀ j, j < c - 1 → S' 2 j = S 2 j) → S' 2 (c - 1) = x + 1 → (∀ j, j < 16 * c → S' 3 j = S 3 j) → (∀ j, 0 ≤ j → j < pn n → S' 3 (16 * c + j) = S 0 (h - pn n + j) ∧ S' 7 (16 * c + j) = 1) → (∀ j, S 7 j = 1 → S' 7 j = 1) → S' 4 = S 4 → S' 6 2 = S 6 2 → S' 6 3 = S 6 3 → m_G cd pn Z k' S') : m_G cd pn Z k S := by
  have hn := mV_nx hv
  have kn := mK_nx hv
  by_cases q : c = 60
  · exact m_go hv hc (by rw [m_op_15, hn.1.1, if_pos q]) (fun e => by cases e) (fun e => by cases e)
  · refine m_go hv hc (oe := 0) (U := m_cl (m_nx S) n (pn n)) (by rw [m_op_15, hn.1.1, hn.1.2, if_neg q, if_pos ⟨hn'.1, hn'.2, hp⟩]) (fun _ k' hk => ?_) (fun e => by cases e)
    have v5 := hv.2.2.1
    unfold m_cl
    rw [hn.1.1, hn.1.2]
    have n3 : m_nx S 6 3 = S 6 3 := m_nx_6 (by decide)
    refine K k' hk (by omega) _ ⟨⟨?_, ?_⟩, ⟨?_, ?_⟩, by omega, by have := hv.2.2.2; omega⟩ (fun j hj => ?_) (fun j hj => ?_) (fun j hj => ?_) ?_ (fun j hj => ?_) (fun j j0 j1 => ⟨?_, ?_⟩) (fun j q7 => ?_) ?_ ?_ ?_
    · rw [x_up_o (by decide), x_up_o (by decide), x_up_s rfl]
    · rw [x_up_o (by decide), x_up_s rfl]
    · rw [x_up_p (by decide), x_up_p (by decide), x_up_p (by decide), x_up_p (by decide), x_up_s (by omega)]
    · rw [x_up_p (by decide), x_up_p (by decide), x_up_p (by decide), x_up_s (by omega)]
    · rw [x_up_p (by decide), x_up_p (by decide), x_up_p (by decide), x_up_p (by decide), x_up_p (by decide), x_fill_p (by decide), x_cpy_p (by decide), mP_nx]
    · rw [x_up_p (by decide), x_up_p (by decide), x_up_p (by decide), x_up_p (by decide), x_up_o (by omega), x_fill_p (by decide), x_cpy_p (by decide), kn.1]
    · rw [x_up_p (by decide), x_up_p (by decide), x_up_p (by decide), x_up_o (by omega), x_up_p (by decide), x_fill_p (by decide), x_cpy_p (by decide), kn.2.1 j hj]
    · rw [x_up_p (by decide), x_up_p (by decide), x_up_p (by decide), x_up_o (by omega), x_up_p (by decide), x_fill_p (by decide), x_cpy_p (by decide)]
      exact hn.2.1.2
    · rw [x_up_p (by decide), x_up_p (by decide), x_up_p (by decide), x_up_p (by decide), x_up_p (by decide), x_fill_p (by decide), x_cpy_o (by omega), kn.2.2.1.1]
    · rw [x_up_p (by decide), x_up_p (by decide), x_up_p (by decide), x_up_p (by decide), x_up_p (by decide), x_fill_p (by decide), x_cpy_i (by omega), mP_nx]
      congr 1
      omega
    · rw [x_up_p (by decide), x_up_p (by decide), x_up_p (by decide), x_up_p (by decide), x_up_p (by decide), x_fill_i (by omega)]
    · by_cases e : 16 * c ≤ j ∧ j < 16 * c + pn n
      · rw [x_up_p (by decide), x_up_p (by decide), x_up_p (by decide), x_up_p (by decide), x_up_p (by decide), x_fill_i (by omega)]
      · rw [x_up_p (by decide), x_up_p (by decide), x_up_p (by decide), x_up_p (by decide), x_up_p (by decide), x_fill_o (by omega), x_cpy_p (by decide), kn.2.2.1.2]; exact q7
    · funext j; rw [x_up_p (by decide), x_up_p (by decide), x_up_p (by decide), x_up_p (by decide), x_up_p (by decide), x_fill_p (by decide), x_cpy_p (by decide), kn.2.2.2.1]
    · rw [x_up_o (by decide), x_up_o (by decide), x_up_o (by decide), x_up_p (by decide), x_up_p (by decide), x_fill_p (by decide), x_cpy_p (by decide), kn.2.2.2.2]
    · rw [x_up_o (by decide), x_up_o (by decide), x_up_o (by decide), x_up_p (by decide), x_up_p (by decide), x_fill_p (by decide), x_cpy_p (by decide), n3]
/-- back -/
theorem gd_22 (hv : mV S c f x h) (hc : cd f x = some (22, n)) (K : ∀ k', k' ≤ k → 1 < c → ∀ S', S' 6 1 = c - 1 → S' 6 0 = h → S' 0 = S 0 → S' 1 = S 1 → (∀ j, j < c - 1 → S' 2 j = S 2 j) → S' 3 = S 3 ∧ S' 7 = S 7 → S' 4 = S 4 → S' 6 2 = S 6 2 → S' 6 3 = S 6 3 → m_G cd pn Z k' S') (K1 : c = 1 → ∀ S', S' 6 0 = h → S' 0 = S 0 → S' 4 = S 4 → S' 6 2 = S 6 2 → S' 6 3 = S 6 3 → Z S') : m_G cd pn Z k S := by
  have hn := mV_nx hv
  have kn := mK_nx hv
  have n3 : m_nx S 6 3 = S 6 3 := m_nx_6 (by decide)
  by_cases q : c = 1
  · refine m_go hv hc (oe := 1) (U := x_up (m_nx S) 6 1 (c - 1)) (by rw [m_op_22, hn.1.1, if_pos q]) (fun e => by cases e) (fun _ => K1 q _ ?_ ?_ ?_ ?_ ?_)
    · rw [x_up_o (by decide)]; exact hn.1.2
    · rw [x_up_ne (by decide), mP_nx]
    · rw [x_up_ne (by decide)]; exact kn.2.2.2.1
    · rw [x_up_o (by decide)]; exact kn.2.2.2.2
    · rw [x_up_o (by decide)]; exact n3
  · refine m_go hv hc (oe := 0) (U := x_up (m_nx S) 6 1 (c - 1)) (by rw [m_op_22, hn.1.1, if_neg q]) (fun _ k' hk => K k' (by omega) (by have := hv.2.2.1; omega) _ (x_up_s rfl) ?_ ?_ ?_ (fun j hj => ?_) ?_ ?_ ?_ ?_) (fun e => by cases e)
    · rw [x_up_o (by decide)]; exact hn.1.2
    · rw [x_up_ne (by decide), mP_nx]
    · rw [x_up_ne (by decide)]; exact kn.1
    · rw [x_up_p (by decide)]; exact kn.2.1 j hj
    · exact ⟨by rw [x_up_ne (by decide)]; exact kn.2.2.1.1, by rw [x_up_ne (by decide)]; exact kn.2.2.1.2⟩
    · rw [x_up_ne (by decide)]; exact kn.2.2.2.1
    · rw [x_up_o (by decide)]; exact kn.2.2.2.2
    · rw [x_up_o (by decide)]; exact n3
end

/-! WHAT THE CLASS'S TREE HOLDS of indexes, props, types -/
/-- terms from node c on, all of them at lo or behind it, before hi -/
def ixC (T : Int → Int) (lo hi : Int) : Int → List z_t → Prop
  | c, [] => c = 0
  | c, t :: l => (lo ≤ c ∧ c < hi) ∧ (T (c * 9 + 0) = 16 ∧ T (c * 9 + 1) = t.2.2.2.2) ∧ T (c * 9 + 2) = t.2.2.2.1 ∧ T (c * 9 + 3) = t.2.1 ∧ T (c * 9 + 4) = t.1 ∧ ixC T lo hi (t_nx T c) l
def psC (T : Int → Int) (lo hi : Int) : Int → List z_p → Prop
  | c, [] => c = 0
  | c, x :: l => (lo ≤ c ∧ c < hi) ∧ (T (c * 9 + 0) = 18 ∧ T (c * 9 + 4) = x.1) ∧ ixC T lo hi (T (c * 9 + 5)) x.2.2.1 ∧ ixC T lo hi (T (c * 9 + 6)) x.2.2.2.1 ∧ psC T lo hi (t_nx T c) l
def tyC (T : Int → Int) (lo hi c : Int) (x : z_T) : Prop := (lo ≤ c ∧ c < hi) ∧ ((x.1 = 0 ∧ T (c * 9 + 0) = 19) ∨ (x.1 = 1 ∧ T (c * 9 + 0) = 20 ∧ ixC T lo hi (T (c * 9 + 5)) x.2.2.1.2) ∨ (x.1 = 3 ∧ T (c * 9 + 0) = 22 ∧ ixC T lo hi (T (c * 9 + 5)) x.2.2.1.2) ∨ (x.1 = 2 ∧ T (c * 9 + 0) = 21 ∧ T (c * 9 + 3) = x.2.2.2.1.1 ∧ psC T lo hi (T (c * 9 + 5)) x.2.2.2.2))
theorem t_nx_fr {T T' : Int → Int} {c : Int} (h : T' (c * 9 + 7) = T (c * 9 + 7)) : t_nx T' c = t_nx T c := by
  unfold t_nx
  rw [h]
/-- they stay what they are where the tree stays what it is; there may be more room -/
theorem ixC_fr {T T' : Int → Int} {lo hi lo' hi' : Int} (h : ∀ j, lo * 9 ≤ j → j < hi * 9 → T' j = T j) (h1 : lo' ≤ lo) (h2 : hi ≤ hi') : ∀ {L : List z_t} {c : Int}, ixC T lo hi c L → ixC T' lo' hi' c L
  | [], _, q => q
  | t :: l, c, ⟨a, b1, b2, b3, b4, b5⟩ => by
    refine ⟨by omega, ⟨(h _ (by omega) (by omega)).trans b1.1, (h _ (by omega) (by omega)).trans b1.2⟩, (h _ (by omega) (by omega)).trans b2, (h _ (by omega) (by omega)).trans b3, (h _ (by omega) (by omega)).trans b4, ?_⟩
    rw [t_nx_fr (h _ (by omega) (by omega))]
    exact ixC_fr h h1 h2 b5
theorem psC_fr {T T' : Int → Int} {lo hi lo' hi' : Int} (h : ∀ j, lo * 9 ≤ j → j < hi * 9 → T' j = T j) (h1 : lo' ≤ lo) (h2 : hi ≤ hi') : ∀ {L : List z_p} {c : Int}, psC T lo hi c L → psC T' lo' hi' c L
  | [], _, q => q
  | x :: l, c, ⟨a, b1, b2, b3, b4⟩ => by
    refine ⟨by omega, ⟨(h _ (by omega) (by omega)).trans b1.1, (h _ (by omega) (by omega)).trans b1.2⟩, ?_, ?_, ?_⟩
    · rw [h _ (by omega) (by omega)]; exact ixC_fr h h1 h2 b2
    · rw [h _ (by omega) (by omega)]; exact ixC_fr h h1 h2 b3
    · rw [t_nx_fr (h _ (by omega) (by omega))]; exact psC_fr h h1 h2 b4
theorem tyC_fr {T T' : Int → Int} {lo hi lo' hi' c : Int} {x : z_T} (h : ∀ j, lo * 9 ≤ j → j < hi * 9 → T' j = T j) (h1 : lo' ≤ lo) (h2 : hi ≤ hi') (q : tyC T lo hi c x) : tyC T' lo' hi' c x := by
  obtain ⟨a, b⟩ := q
  refine ⟨by omega, ?_⟩
  rcases b with ⟨b1, b2⟩ | ⟨b1, b2, b3⟩ | ⟨b1, b2, b3⟩ | ⟨b1, b2, b3, b4⟩
  · exact .inl ⟨b1, (h _ (by omega) (by omega)).trans b2⟩
  · exact .inr (.inl ⟨b1, (h _ (by omega) (by omega)).trans b2, by rw [h _ (by omega) (by omega)]; exact ixC_fr h h1 h2 b3⟩)
  · exact .inr (.inr (.inl ⟨b1, (h _ (by omega) (by omega)).trans b2, by rw [h _ (by omega) (by omega)]; exact ixC_fr h h1 h2 b3⟩))
  · exact .inr (.inr (.inr ⟨b1, (h _ (by omega) (by omega)).trans b2, (h _ (by omega) (by omega)).trans b3, by rw [h _ (by omega) (by omega)]; exact psC_fr h h1 h2 b4⟩))
/-- a term whose name is none has no place of a name -/
def z_tk (t : z_t) : Prop := (-999 ≤ t.1 ∧ t.1 ≤ 999) ∧ ((t.2.1 = 0 ∧ t.2.2.1 = 0 ∧ t.2.2.2.1 = 0) ∨ w_w t.2.1 t.2.2.1)
theorem z_tk_0 {t : z_t} (h : z_tk t) : t.2.1 = 0 → t.2.2.2.1 = 0 := fun h0 => by
  rcases h.2 with h | h
  · exact h.2.2
  · have := w_w_pos h; omega
theorem t_tm_f {T : Int → Int} {z last : Int} {t : z_t} (hl : 0 ≤ last ∧ last < z) (ht : z_tk t) : (t_tm T z last t (z * 9 + 0) = 16 ∧ t_tm T z last t (z * 9 + 1) = t.2.2.2.2) ∧ t_tm T z last t (z * 9 + 2) = t.2.2.2.1 ∧ t_tm T z last t (z * 9 + 3) = t.2.1 ∧ t_tm T z last t (z * 9 + 4) = t.1 ∧ t_tm T z last t (z * 9 + 7) = 0 ∧ (last ≠ 0 → t_tm T z last t (last * 9 + 7) = z) := by
  unfold t_tm
  by_cases h1 : t.2.1 = 0
  · have h0 := z_tk_0 ht h1
    rw [if_pos h1]
    by_cases h2 : last = 0
    · rw [if_pos h2]
      refine ⟨?_, ?_, ?_, ?_, ?_, fun q => absurd h2 q⟩
      · exact ⟨by rw [t_u_o (by omega), t_ad_0 rfl], by rw [t_u_o (by omega), t_ad_1 rfl]⟩
      · rw [t_u_o (by omega), t_ad_z (by omega), h0]
      · rw [t_u_o (by omega), t_ad_z (by omega), h1]
      · rw [t_u_s rfl]
      · rw [t_u_o (by omega), t_ad_z (by omega)]
    · rw [if_neg h2]
      refine ⟨?_, ?_, ?_, ?_, ?_, fun q => t_u_s rfl⟩
      · exact ⟨by rw [t_u_o (by omega), t_u_o (by omega), t_ad_0 rfl], by rw [t_u_o (by omega), t_u_o (by omega), t_ad_1 rfl]⟩
      · rw [t_u_o (by omega), t_u_o (by omega), t_ad_z (by omega), h0]
      · rw [t_u_o (by omega), t_u_o (by omega), t_ad_z (by omega), h1]
      · rw [t_u_o (by omega), t_u_s rfl]
      · rw [t_u_o (by omega), t_u_o (by omega), t_ad_z (by omega)]
  · rw [if_neg h1]
    by_cases h2 : last = 0
    · rw [if_pos h2]
      refine ⟨?_, ?_, ?_, ?_, ?_, fun q => absurd h2 q⟩
      · exact ⟨by rw [t_u_o (by omega), t_u_o (by omega), t_u_o (by omega), t_ad_0 rfl], by rw [t_u_o (by omega), t_u_o (by omega), t_u_o (by omega), t_ad_1 rfl]⟩
      · rw [t_u_o (by omega), t_u_s rfl]
      · rw [t_u_s rfl]
      · rw [t_u_o (by omega), t_u_o (by omega), t_u_s rfl]
      · rw [t_u_o (by omega), t_u_o (by omega), t_u_o (by omega), t_ad_z (by omega)]
    · rw [if_neg h2]
      refine ⟨?_, ?_, ?_, ?_, ?_, fun q => t_u_s rfl⟩
      · exact ⟨by rw [t_u_o (by omega), t_u_o (by omega), t_u_o (by omega), t_u_o (by omega), t_ad_0 rfl], by rw [t_u_o (by omega), t_u_o (by omega), t_u_o (by omega), t_u_o (by omega), t_ad_1 rfl]⟩
      · rw [t_u_o (by omega), t_u_o (by omega), t_u_s rfl]
      · rw [t_u_o (by omega), t_u_s rfl]
      · rw [t_u_o (by omega), t_u_o (by omega), t_u_o (by omega), t_u_s rfl]
      · rw [t_u_o (by omega), t_u_o (by omega), t_u_o (by omega), t_u_o (by omega), t_ad_z (by omega)]
theorem t_ix_C : ∀ (L : List z_t) (T : Int → Int) (z last : Int), 0 ≤ last → last < z → (∀ t ∈ L, z_tk t) → L ≠ [] → ixC (t_ix T z last L) z (z + L.length) z L ∧ (last ≠ 0 → t_ix T z last L (last * 9 + 7) = z)
  | [], _, _, _, _, _, _, h => absurd rfl h
  | [t], T, z, last, h0, h1, ht, _ => by
    obtain ⟨f1, f2, f3, f4, f5, f6⟩ := t_tm_f (T := T) (z := z) ⟨h0, h1⟩ (ht t List.mem_cons_self)
    refine ⟨⟨⟨Int.le_refl _, by simp; omega⟩, f1, f2, f3, f4, ?_⟩, f6⟩
    show t_nx (t_tm T z last t) z = 0
    unfold t_nx
    rw [f5, if_neg (by omega)]
  | t :: u :: l, T, z, last, h0, h1, ht, _ => by
    obtain ⟨f1, f2, f3, f4, f5, f6⟩ := t_tm_f (T := T) (z := z) ⟨h0, h1⟩ (ht t List.mem_cons_self)
    obtain ⟨i1, i2⟩ := t_ix_C (u :: l) (t_tm T z last t) (z + 1) z (by omega) (by omega) (fun x hx => ht x (List.mem_cons_of_mem _ hx)) (by simp)
    have lo : ∀ j, j < (z + 1) * 9 → j ≠ z * 9 + 7 → t_ix (t_tm T z last t) (z + 1) z (u :: l) j = t_tm T z last t j := fun j a b => t_ix_lo _ _ _ _ _ a (.inr b)
    have e : t_ix T z last (t :: u :: l) = t_ix (t_tm T z last t) (z + 1) z (u :: l) := rfl
    have hn := i2 (by omega)
    rw [e]
    refine ⟨⟨⟨Int.le_refl _, by simp only [List.length_cons]; omega⟩, ?_, ?_, ?_, ?_, ?_⟩, fun q => ?_⟩
    · exact ⟨by rw [lo _ (by omega) (by omega)]; exact f1.1, by rw [lo _ (by omega) (by omega)]; exact f1.2⟩
    · rw [lo _ (by omega) (by omega)]; exact f2
    · rw [lo _ (by omega) (by omega)]; exact f3
    · rw [lo _ (by omega) (by omega)]; exact f4
    · have e2 : t_nx (t_ix (t_tm T z last t) (z + 1) z (u :: l)) z = z + 1 := by
        unfold t_nx
        rw [hn, if_pos (by omega)]
      rw [e2]
      refine ixC_fr (fun _ _ _ => rfl) (by omega) ?_ i1
      simp only [List.length_cons]
      omega
    · rw [lo _ (by omega) (by omega)]; exact f6 q
theorem z_tm_k {tk : Int → t_t} {c p s p2 : Int} {t : z_t} (hS : t_S tk c) (hp : 0 ≤ p ∧ p ≤ c) (hs : s = 1 ∨ s = -1) (h : z_tm tk p s = .inr (p2, t)) : z_tk t := by
  have hq := z_tm_p hS hp h
  have nm : ∀ i, 0 ≤ i → i ≤ c → (tk i).1 = 3 → w_w (tk i).2.2.1 (tk i).2.2.2.2 := fun i a b h3 => by
    have := hS.2.2.1 i a b
    unfold t_rel at this
    rcases this with q | q | q | q | q | q
    · omega
    · omega
    · omega
    · exact q.2.2.1
    · omega
    · omega
  have nu : ∀ i, 0 ≤ i → i ≤ c → (tk i).1 = 4 → 0 ≤ (tk i).2.2.1 ∧ (tk i).2.2.1 ≤ 999 := fun i a b h4 => by
    have := hS.2.2.1 i a b
    unfold t_rel at this
    rcases this with q | q | q | q | q | q
    · omega
    · omega
    · omega
    · omega
    · exact q.2.2.2
    · omega
  unfold z_tm at h
  split at h
  · rename_i h4
    have n4 := nu p hp.1 hp.2 h4
    have n5 : -999 ≤ s * (tk p).2.2.1 ∧ s * (tk p).2.2.1 ≤ 999 := by rcases hs with rfl | rfl <;> omega
    split at h
    · split at h
      · rename_i h3
        cases h
        exact ⟨n5, .inr (nm (p + 2) (by omega) (by omega) h3)⟩
      · cases h
    · cases h
      exact ⟨n5, .inl ⟨rfl, rfl, rfl⟩⟩
  · split at h
    · rename_i h3
      cases h
      exact ⟨by rcases hs with rfl | rfl <;> omega, .inr (nm p hp.1 hp.2 h3)⟩
    · cases h
theorem z_pm_s {x : t_t} {s : Int} (h : z_pm x s) : s = 1 ∨ s = -1 := by
  rcases h with ⟨_, _, h⟩ | ⟨_, _, h⟩
  · exact .inl h
  · exact .inr h
theorem z_K_k {tk : Int → t_t} {c : Int} (hS : t_S tk c) : ∀ {l : List z_t} {p p' : Int}, 0 ≤ p ∧ p ≤ c → z_K tk p l p' → ∀ t ∈ l, z_tk t
  | [], _, _, _, _, _, h => by cases h
  | t :: l, p, p', hp, ⟨s, p2, h1, h2, h3⟩, x, hx => by
    have q1 := z_pm_p hS hp h1
    have q2 := z_tm_p hS (p := p + 1) (by omega) h2
    rcases List.mem_cons.mp hx with rfl | hx
    · exact z_tm_k hS (p := p + 1) (by omega) (z_pm_s h1) h2
    · exact z_K_k hS (by omega) h3 x hx
theorem z_I_k {tk : Int → t_t} {c p p' : Int} {L : List z_t} (hS : t_S tk c) (hp : 0 ≤ p ∧ p ≤ c) (h : z_I tk p L p') : (∀ t ∈ L, z_tk t) ∧ L ≠ [] := by
  obtain ⟨t, l, p1, rfl, h1, h2⟩ := h
  have q1 := z_tm_p hS hp h1
  refine ⟨fun x hx => ?_, by simp⟩
  rcases List.mem_cons.mp hx with rfl | hx
  · exact z_tm_k hS hp (.inl rfl) h1
  · exact z_K_k hS (by omega) h2 x hx

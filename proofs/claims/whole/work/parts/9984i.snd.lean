/-! WHAT IS ACCEPTED RUNS AS IT SHOULD: what is to be shown -/
/-- a value: b is 1 for a row, x is a number or how long the row is -/
def vO (Hd : Int → Prop) (S : m_T) (b v x : Int) : Prop := (b = 1 → Hd v ∧ S 4 v = x) ∧ (b ≠ 1 → v = x)
theorem vO_go {Hd Hd' : Int → Prop} {S S' : m_T} {b v x : Int} (h : vO Hd S b v x) (hg : hG Hd S Hd' S') : vO Hd' S' b v x := ⟨fun q => ⟨(hg v (h.1 q).1).1, (hg v (h.1 q).1).2.trans (h.1 q).2⟩, h.2⟩
/-- locals are worth what names say -/
def eO (Hd : Int → Prop) (S : m_T) (σ : Int → Int) (base ic : Int) : k_E → Prop
  | [] => True
  | x :: l => (ic ≤ l.length → vO Hd S (x.2.1 - 1) (S 3 (base + (l.length - ic))) (u_v σ x.2.2) ∧ S 7 (base + (l.length - ic)) = 1) ∧ eO Hd S σ base ic l
theorem eO_go {Hd Hd' : Int → Prop} {S S' : m_T} {σ τ : Int → Int} {base ic v : Int} (hg : hG Hd S Hd' S') (hs : ∀ k, 0 ≤ k → k < v → τ k = σ k) (h7 : ∀ j, S 7 j = 1 → S' 7 j = 1) : ∀ {E : k_E}, eZ v E → (∀ j, j < base + (E.length - ic) → S' 3 j = S 3 j) → eO Hd S σ base ic E → eO Hd' S' τ base ic E
  | [], _, _, _ => trivial
  | x :: l, hE, hl, ⟨h1, h2⟩ => by
    rw [List.length_cons] at hl
    refine ⟨fun q => ?_, eO_go hg hs h7 (fun z hz => hE z (List.mem_cons_of_mem _ hz)) (fun j hj => hl j (by omega)) h2⟩
    rw [hl _ (by omega), u_v_k (hE x (List.mem_cons_self ..)) hs]
    exact ⟨vO_go (h1 q).1 hg, h7 _ (h1 q).2⟩
theorem eO_fl {Hd : Int → Prop} {S : m_T} {σ : Int → Int} {base ic w : Int} {y : Int × (Int → Int)} (h0 : 0 ≤ ic) : ∀ {E : k_E}, eO Hd S σ base ic E → eI ic E → k_fl w E = some y → (0 ≤ k_lo w (eL ic E) ∧ k_lo w (eL ic E) < E.length - ic) ∧ vO Hd S (y.1 - 1) (S 3 (base + k_lo w (eL ic E))) (u_v σ y.2) ∧ S 7 (base + k_lo w (eL ic E)) = 1
  | [], _, _, h => by cases h
  | x :: l, ⟨o1, o2⟩, ⟨i1, i2⟩, h => by
    have h' := h
    unfold k_fl at h
    by_cases c : x.1 = w ∧ 0 < x.2.1
    · rw [if_pos c] at h
      injection h with h
      have q : ic ≤ l.length := by
        rcases i1 with z | z
        · exact z.1
        · omega
      have el : eL ic (x :: l) = x.1 :: eL ic l := by
        show (if ic ≤ l.length then x.1 :: eL ic l else []) = _
        rw [if_pos q]
      have lo : k_lo w (eL ic (x :: l)) = l.length - ic := by
        rw [el]
        show (if x.1 = w then ((eL ic l).length : Int) else k_lo w (eL ic l)) = _
        rw [if_pos c.1, eL_len h0 q]
      rw [lo, List.length_cons, ← h]
      exact ⟨⟨by omega, by omega⟩, o1 q⟩
    · rw [if_neg c] at h
      by_cases q : ic ≤ l.length
      · have el : eL ic (x :: l) = x.1 :: eL ic l := by
          show (if ic ≤ l.length then x.1 :: eL ic l else []) = _
          rw [if_pos q]
        have nx : x.1 ≠ w := fun z => c ⟨z, by
          rcases i1 with u | u
          · omega
          · omega⟩
        have lo : k_lo w (eL ic (x :: l)) = k_lo w (eL ic l) := by
          rw [el]
          show (if x.1 = w then ((eL ic l).length : Int) else k_lo w (eL ic l)) = _
          rw [if_neg nx]
        obtain ⟨a, b⟩ := eO_fl h0 o2 i2 h
        rw [lo, List.length_cons]
        exact ⟨⟨a.1, by omega⟩, b⟩
      · rw [k_fl_0 i2 (by omega)] at h
        cases h
/-- a value of a type that was looked at -/
def tV (Hd : Int → Prop) (S : m_T) (σ : Int → Int) (t : k_h) (v : Int) : Prop := (t.1 = 3 → Hd v ∧ tO σ t (S 4 v)) ∧ (t.1 ≠ 3 → tO σ t v)
/-- what comes out -/
def pVal (w : Option k_h) (y : k_v) (Hd : Int → Prop) (S : m_T) (τ : Int → Int) (v : Int) : Prop := match w with
  | none => vO Hd S y.2.1 v (u_v τ y.2.2)
  | some t => tV Hd S τ t v
/-- behind it: one value more, all else as it was -/
def pW (c f x h l v0 : Int) (σ : Int → Int) (Hd : Int → Prop) (S : m_T) (s' : k_s) (val : (Int → Prop) → m_T → (Int → Int) → Int → Prop) (S' : m_T) : Prop := ∃ (τ : Int → Int) (Hd' : Int → Prop), mV S' c f x (h + 1) ∧ mQ c h l S S' ∧ hG Hd S Hd' S' ∧ hI Hd' S' ∧ (∀ k, 0 ≤ k → k < v0 → τ k = σ k) ∧ fO τ s' ∧ val Hd' S' τ (S' 0 h)
section
variable (M : Nat → Int → Int) (fs how : Int) (cd : Int → Int → Option (Int × Int)) (pn : Int → Int) (Z : m_T → Prop) (nf : Int → Int)
/-- node r was checked in f, and stands as code from p on -/
def mAs (L m n : Nat) (w : Option k_h) (r p : Int) (E : k_E) (s : k_s) (y : k_v) (D : Int → Prop) (f : Int) : Prop := ((∃ t wv, vn M L r t wv) ∧ L ≤ m ∧ un M L r D) ∧ (k_ck M fs f n w r E s = .inr y ∧ y.1.1 4 = 1) ∧ (∀ x, D x → nf x = y.1.2.2.2 x) ∧ (sZ s ∧ eZ (s.1 0) E ∧ eI (M 88 f) E ∧ 0 ≤ M 88 f ∧ M 88 f ≤ E.length ∧ (E.length : Int) - M 88 f ≤ 10) ∧ m_C cd how f p (k_em M fs.toNat nf m (eL (M 88 f) E) r p) ∧ ∀ t, w = some t → tZ (s.1 0) t
/-- where it stands before it -/
def mDy (σ : Int → Int) (Hd : Int → Prop) (S : m_T) (c f p h : Int) (E : k_E) (s : k_s) : Prop := fO σ s ∧ eO Hd S σ (16 * (c - 1)) (M 88 f) E ∧ hI Hd S ∧ mV S c f p h
/-- it runs as it should, for k steps -/
def mOK (k L : Nat) (w : Option k_h) : Prop := ∀ (m n : Nat) (r p : Int) (E : k_E) (s : k_s) (y : k_v) (D : Int → Prop) (c f h : Int) (σ : Int → Int) (Hd : Int → Prop) (S : m_T), mAs M fs how cd nf L m n w r p E s y D f → mDy M σ Hd S c f p h E s → (∀ k', k' ≤ k → ∀ S', pW c f (p + (k_em M fs.toNat nf m (eL (M 88 f) E) r p).length) h (16 * (c - 1) + (E.length - M 88 f)) (s.1 0) σ Hd S y.1 (pVal w y) S' → m_G cd pn Z k' S') → m_G cd pn Z k S
end
section
variable {M : Nat → Int → Int} {fs how : Int} {cd : Int → Int → Option (Int × Int)} {pn : Int → Int} {Z : m_T → Prop} {nf : Int → Int}
/-- behind a part it goes on from there -/
theorem mDy_go {σ : Int → Int} {Hd : Int → Prop} {S S' : m_T} {c f p h x v0 : Int} {E : k_E} {s s' : k_s} {val : (Int → Prop) → m_T → (Int → Int) → Int → Prop} (hd : mDy M σ Hd S c f p h E s) (hE : eZ (s.1 0) E) (hv : s.1 0 ≤ v0) (h1 : pW c f x h (16 * (c - 1) + (E.length - M 88 f)) v0 σ Hd S s' val S') : ∃ τ Hd', mDy M τ Hd' S' c f x (h + 1) E s' ∧ val Hd' S' τ (S' 0 h) ∧ mQ c h (16 * (c - 1) + (E.length - M 88 f)) S S' ∧ hG Hd S Hd' S' ∧ ∀ k, 0 ≤ k → k < v0 → τ k = σ k := by
  obtain ⟨τ, Hd', a1, a2, a3, a4, a5, a6, a7⟩ := h1
  exact ⟨τ, Hd', ⟨a6, eO_go a3 (fun k k0 k1 => a5 k k0 (by omega)) a2.2.2.2.2 hE a2.2.2.2.1 hd.2.1, a4, a1⟩, a7, a2, a3, a5⟩
/-- nothing but the pile has changed -/
theorem mDy_K {σ : Int → Int} {Hd : Int → Prop} {S S' : m_T} {c f p h p' h' : Int} {E : k_E} {s : k_s} (hd : mDy M σ Hd S c f p h E s) (hk : mK c S S') (hv : mV S' c f p' h') (hE : eZ 24 E) : mDy M σ Hd S' c f p' h' E s := ⟨hd.1, eO_go (v := 24) (hG_rf hk.2.2.2.1) (fun _ _ _ => rfl) (fun j q => by rw [hk.2.2.1.2]; exact q) hE (fun j _ => by rw [hk.2.2.1.1]) hd.2.1, hI_q hd.2.2.1 hk.2.2.2.1 hk.2.2.2.2, hv⟩
theorem eZ_24 {v : Int} {E : k_E} (h : eZ v E) (hv : v ≤ 24) : eZ 24 E := eZ_le h hv
theorem mAs_z {L m n : Nat} {w : Option k_h} {r p : Int} {E : k_E} {s : k_s} {y : k_v} {D : Int → Prop} {f : Int} (h : mAs M fs how cd nf L m n w r p E s y D f) : zS s y.1 ∧ (w = none → zV y) := zS_ck h.2.2.2.1.1 h.2.2.2.1.2.1 h.2.2.2.1.2.2.1 h.2.2.2.1.2.2.2.2.1 h.2.1.1
/-- marks of a part are those of the whole -/
theorem nf_pt {s s' : k_s} {D D1 : Int → Prop} (h : ∀ x, D x → nf x = s'.2.2.2 x) (h1 : ∀ x, D1 x → D x) (h2 : ∀ x, D1 x → s'.2.2.2 x = s.2.2.2 x) : ∀ x, D1 x → nf x = s.2.2.2 x := fun x hx => by rw [h x (h1 x hx), h2 x hx]
end

/-! WHAT INDEXES, PROPS AND TYPES SAY of values; what check takes over from it -/
/-- a relation of a gap -/
def rGp (r g : Int) : Prop := if r = 2 then g = 0 else if r = 0 then 1 ≤ g else if r = 1 then 0 ≤ g else if r = 4 then g ≤ -1 else g ≤ 0
theorem u_pd {σ g : Int → Int} {r : Int} : (∀ w ∈ k_pd r g, 0 ≤ u_v σ w) ↔ rGp r (u_v σ g) := by
  unfold k_pd rGp
  have one : ∀ a : Int → Int, (∀ w ∈ [a], 0 ≤ u_v σ w) ↔ 0 ≤ u_v σ a := fun a => ⟨fun h => h a (List.mem_cons_self ..), fun h w hw => by
    rcases List.mem_cons.mp hw with rfl | hw
    · exact h
    · cases hw⟩
  by_cases r2 : r = 2
  · rw [if_pos r2, if_pos r2]
    constructor
    · intro h
      have h1 := h g (List.mem_cons_self ..)
      have h2 := h (k_m g (-1)) (List.mem_cons_of_mem _ (List.mem_cons_self ..))
      rw [u_v_m] at h2
      omega
    · intro h w hw
      rcases List.mem_cons.mp hw with rfl | hw
      · omega
      · rcases List.mem_cons.mp hw with rfl | hw
        · rw [u_v_m]; omega
        · cases hw
  · rw [if_neg r2, if_neg r2]
    by_cases r0 : r = 0
    · rw [if_pos r0, if_pos r0, one, u_v_p, u_v_n]
      omega
    · rw [if_neg r0, if_neg r0]
      by_cases r1 : r = 1
      · rw [if_pos r1, if_pos r1, one]
      · rw [if_neg r1, if_neg r1]
        by_cases r4 : r = 4
        · rw [if_pos r4, if_pos r4, one, u_v_p, u_v_n, u_v_m]
          omega
        · rw [if_neg r4, if_neg r4, one, u_v_m]
          omega
/-- an index: its terms under values of names; iw a name that is worth iv -/
def iS (nu : Int → Int) (iw iv : Int) : List (Int × Int × Int) → Int
  | [] => 0
  | t :: l => (if t.2.1 = 0 then t.1 else if t.2.1 = iw then t.1 * iv else t.1 * nu t.2.1) + iS nu iw iv l
/-- names' rows are worth what nu says -/
def eNu (σ nu : Int → Int) (E : k_E) : Prop := ∀ x ∈ E, u_v σ x.2.2 = nu x.1
theorem eNu_c {σ nu : Int → Int} {E : k_E} {c b : Int} {h : Int → Int} (h1 : u_v σ h = nu c) (h2 : eNu σ nu E) : eNu σ nu ((c, b, h) :: E) := fun x hx => by
  rcases List.mem_cons.mp hx with rfl | hx
  · exact h1
  · exact h2 x hx
theorem eNu_fd {σ nu : Int → Int} {w : Int} {y : Int × (Int → Int)} : ∀ {E : k_E}, eNu σ nu E → k_fd w E = some y → u_v σ y.2 = nu w
  | [], _, h => by cases h
  | x :: l, q, h => by
    unfold k_fd at h
    split at h
    · rename_i c
      injection h with h
      rw [← h, ← c]
      exact q x (List.mem_cons_self ..)
    · exact eNu_fd (fun z hz => q z (List.mem_cons_of_mem _ hz)) h
theorem iS_ix {σ nu : Int → Int} {iw iv : Int} {E : k_E} (hE : eNu σ nu E) : ∀ {L : List (Int × Int × Int)} {h : Int → Int} {z : Int} {y : (Int → Int) × Int}, k_ix E iw L h z = .inr y → u_v σ y.1 + y.2 * iv = u_v σ h + z * iv + iS nu iw iv L
  | [], h, z, y, e => by
    cases e
    unfold iS
    dsimp only
    omega
  | t :: l, h, z, y, e => by
    unfold k_ix at e
    unfold iS
    split at e
    · rename_i c
      rw [iS_ix hE e, if_pos c, u_v_p, u_v_n]
      omega
    · rename_i c
      rw [if_neg c]
      split at e
      · rename_i c2
        rw [iS_ix hE e, if_pos c2, Int.add_mul]
        omega
      · rename_i c2
        rw [if_neg c2]
        split at e
        · cases e
        · rename_i x hx
          split at e
          · cases e
          · rw [iS_ix hE e, u_v_p, eNu_fd hE hx]
            omega
/-- the index x of the tables -/
def iX (M : Nat → Int → Int) (nu : Int → Int) (iw iv x : Int) : Int := iS nu iw iv (k_tl M (M 107 x) (M 108 x).toNat)
theorem iX_xx {σ nu : Int → Int} {iw iv cp x : Int} {M : Nat → Int → Int} {E : k_E} {y : (Int → Int) × Int} (hE : eNu σ nu E) (h : k_xx M E iw cp x = .inr y) : u_v σ y.1 + y.2 * iv = iX M nu iw iv x := by
  rw [iS_ix hE (k_xx_inv h), u_v_0]
  unfold iX
  omega
/-- props -/
def pH (M : Nat → Int → Int) (nu : Int → Int) (iw iv : Int) : Int → Nat → Prop
  | _, 0 => True
  | p, n + 1 => rGp (M 111 p) (iX M nu iw iv (M 112 p) - iX M nu iw iv (M 110 p)) ∧ pH M nu iw iv (p + 1) n
theorem pH_rp {σ nu : Int → Int} {iw iv cp : Int} {M : Nat → Int → Int} {E : k_E} (hE : eNu σ nu E) : ∀ {n : Nat} {p : Int} {l : List (Int × (Int → Int) × Int)}, k_rp M E iw cp p n = .inr l → ((∀ u ∈ l, rGp u.1 (u_v σ u.2.1 + u.2.2 * iv)) ↔ pH M nu iw iv p n)
  | 0, _, _, h => by
    cases h
    exact ⟨fun _ => trivial, fun _ u hu => by cases hu⟩
  | n + 1, p, l, h => by
    obtain ⟨a, h1, h2⟩ := k_b_inv (show k_b (k_xx M E iw cp (M 110 p)) _ = .inr l from h)
    obtain ⟨b, h3, h4⟩ := k_b_inv h2
    obtain ⟨l', h5, h6⟩ := k_b_inv h4
    cases h6
    have ih := pH_rp (iv := iv) hE h5
    have e1 := iX_xx (iv := iv) hE h1
    have e2 := iX_xx (iv := iv) hE h3
    have e : u_v σ (k_p b.1 a.1 (-1)) + (b.2 - a.2) * iv = iX M nu iw iv (M 112 p) - iX M nu iw iv (M 110 p) := by
      rw [u_v_p, Int.sub_mul]
      omega
    constructor
    · intro q
      refine ⟨?_, ih.mp (fun u hu => q u (List.mem_cons_of_mem _ hu))⟩
      rw [← e]
      exact q _ (List.mem_cons_self ..)
    · intro q u hu
      rcases List.mem_cons.mp hu with rfl | hu
      · dsimp only
        rw [e]
        exact q.1
      · exact ih.mpr q.2 u hu
theorem u_dp {σ h : Int → Int} : ∀ {l : List (Int × (Int → Int) × Int)}, (∀ w ∈ k_dp h l, 0 ≤ u_v σ w) ↔ ∀ u ∈ l, rGp u.1 (u_v σ u.2.1 + u.2.2 * u_v σ h)
  | [] => ⟨(fun _ u hu => by cases hu), fun _ w hw => by cases hw⟩
  | x :: l => by
    have ih := u_dp (σ := σ) (h := h) (l := l)
    have e := u_pd (σ := σ) (r := x.1) (g := k_p x.2.1 h x.2.2)
    rw [u_v_p] at e
    constructor
    · intro q u hu
      rcases List.mem_cons.mp hu with rfl | hu
      · exact e.mp (fun w hw => q w (List.mem_append.mpr (.inl hw)))
      · exact ih.mp (fun w hw => q w (List.mem_append.mpr (.inr hw))) u hu
    · intro q w hw
      rcases List.mem_append.mp (show w ∈ k_pd x.1 (k_p x.2.1 h x.2.2) ++ k_dp h l from hw) with hw | hw
      · exact e.mpr (q x (List.mem_cons_self ..)) w hw
      · exact ih.mpr (fun u hu => q u (List.mem_cons_of_mem _ hu)) w hw
/-- v is of a type that was looked at -/
def tO (σ : Int → Int) (t : k_h) (v : Int) : Prop := (t.1 = 1 ∨ t.1 = 3 → v = u_v σ t.2.1) ∧ (t.1 = 2 → ∀ u ∈ t.2.2, rGp u.1 (u_v σ u.2.1 + u.2.2 * v))
/-- v is of the type t of the tables -/
def tS (M : Nat → Int → Int) (nu : Int → Int) (t v : Int) : Prop := (M 113 t = 1 ∨ M 113 t = 3 → v = iX M nu 0 0 (M 114 t)) ∧ (M 113 t = 2 → pH M nu (M 115 t) v (M 116 t) (M 117 t).toNat)
theorem tO_rs {σ nu : Int → Int} {cp t v : Int} {M : Nat → Int → Int} {E : k_E} {y : k_h} (hE : eNu σ nu E) (h : k_rs M E cp t = .inr y) : (tO σ y v ↔ tS M nu t v) ∧ ((y.1 = 3) ↔ (M 113 t = 3)) ∧ (y.1 = 0 ∨ y.1 = 1 ∨ y.1 = 2 ∨ y.1 = 3) ∧ (y.1 ≠ 2 → y.2.2 = []) := by
  unfold k_rs at h
  split at h
  · rename_i c
    obtain ⟨a, h1, h2⟩ := k_b_inv h
    cases h2
    have e := iX_xx (iv := 0) hE h1
    rw [Int.mul_zero, Int.add_zero] at e
    refine ⟨⟨fun q => ⟨fun _ => by rw [← e]; exact q.1 c, fun z => by omega⟩, fun q => ⟨fun _ => by dsimp only; rw [e]; exact q.1 c, fun z => by dsimp only at z; omega⟩⟩, Iff.rfl, by dsimp only; omega, fun _ => rfl⟩
  · rename_i c
    split at h
    · rename_i c2
      obtain ⟨a, h1, h2⟩ := k_b_inv h
      cases h2
      have e := pH_rp (iv := v) hE h1
      refine ⟨⟨fun q => ⟨fun z => absurd z c, fun _ => e.mp (q.2 rfl)⟩, fun q => ⟨fun z => by dsimp only at z; omega, fun _ => e.mpr (q.2 c2)⟩⟩, by dsimp only; omega, by dsimp only; omega, fun z => absurd rfl z⟩
    · rename_i c2
      cases h
      refine ⟨⟨fun _ => ⟨fun z => absurd z c, fun z => absurd z c2⟩, fun _ => ⟨fun z => by dsimp only at z; omega, fun z => by dsimp only at z; omega⟩⟩, by dsimp only; omega, by dsimp only; omega, fun _ => rfl⟩
theorem tO_dm {σ h : Int → Int} {t : k_h} (h2 : t.1 ≠ 2 → t.2.2 = []) : (∀ w ∈ k_dm t h, 0 ≤ u_v σ w) ↔ tO σ t (u_v σ h) := by
  unfold k_dm tO
  by_cases c : t.1 = 1 ∨ t.1 = 3
  · rw [if_pos c, u_pd, u_v_p]
    unfold rGp
    rw [if_pos rfl]
    constructor
    · intro q
      exact ⟨fun _ => by omega, fun z => by omega⟩
    · intro q
      have := q.1 c
      omega
  · rw [if_neg c, u_dp]
    constructor
    · intro q
      exact ⟨fun z => absurd z c, fun _ => q⟩
    · intro q
      by_cases c2 : t.1 = 2
      · exact q.2 c2
      · rw [h2 c2]
        exact fun u hu => by cases hu
theorem tO_le {σ τ : Int → Int} {t : k_h} {v w : Int} (hz : tZ w t) (hs : ∀ k, 0 ≤ k → k < w → τ k = σ k) (h : tO σ t v) : tO τ t v := by
  refine ⟨fun c => ?_, fun c u hu => ?_⟩
  · rw [u_v_k hz.1 hs]; exact h.1 c
  · rw [u_v_k (hz.2 u hu) hs]; exact h.2 c u hu
/-- all facts hold -/
def fO (σ : Int → Int) (s : k_s) : Prop := ∀ j, 0 ≤ j → j < s.1 1 → 0 ≤ u_v σ (s.2.1 j)
/-- they hold for values that are alike as far as variables were -/
theorem fO_zS {σ τ : Int → Int} {s s' : k_s} (hs : sZ s) (h : fO σ s) (ht : ∀ k, 0 ≤ k → k < s.1 0 → τ k = σ k) (h1 : s'.1 1 = s.1 1) (h2 : ∀ j, j < s.1 1 → s'.2.1 j = s.2.1 j) : fO τ s' := fun j j0 j1 => by
  rw [h1] at j1
  rw [h2 j j1, u_v_k (hs.2.2 j j0 j1) ht]
  exact h j j0 j1
theorem fO_af {σ : Int → Int} {pl : Int} {h : Int → Int} {s s' : k_s} (hs : sZ s) (hz : u_z (s.1 0) h) (q : k_af pl h s = .inr s') (hf : fO σ s) (hh : 0 ≤ u_v σ h) : fO σ s' := by
  obtain ⟨a, b, c, e⟩ := zS_af hs hz q
  intro j j0 j1
  by_cases hj : j < s.1 1
  · rw [a.2.2.1 j hj]; exact hf j j0 hj
  · have : j = s.1 1 := by omega
    rw [this, e]
    exact hh
theorem fO_afs {σ : Int → Int} {pl : Int} : ∀ {l : List (Int → Int)} {s s' : k_s}, sZ s → (∀ w ∈ l, u_z (s.1 0) w) → k_afs pl l s = .inr s' → fO σ s → (∀ w ∈ l, 0 ≤ u_v σ w) → fO σ s'
  | [], s, s', hs, _, q, hf, _ => by cases q; exact hf
  | h :: l, s, s', hs, hl, q, hf, hh => by
    obtain ⟨s1, h1, h2⟩ := k_b_inv (show k_b (k_af pl h s) (k_afs pl l) = .inr s' from q)
    have z := hl h (List.mem_cons_self ..)
    obtain ⟨a, b, -, -⟩ := zS_af hs z h1
    exact fO_afs a.2.2.2 (fun w hw => by rw [b]; exact hl w (List.mem_cons_of_mem _ hw)) h2 (fO_af hs z h1 hf (hh h (List.mem_cons_self ..))) (fun w hw => hh w (List.mem_cons_of_mem _ hw))
/-- a new variable, worth v -/
theorem fO_nv {σ : Int → Int} {pl v : Int} {s : k_s} {y : k_s × Int} (hs : sZ s) (h : k_nv pl s = .inr y) (hf : fO σ s) : (∀ k, 0 ≤ k → k < s.1 0 → t_u σ y.2 v k = σ k) ∧ fO (t_u σ y.2 v) y.1 ∧ u_v (t_u σ y.2 v) (k_w y.2) = v := by
  obtain ⟨c1, ⟨c2, c3, c4⟩, c5, c6, c7⟩ := zS_nv hs h
  have e : ∀ k, 0 ≤ k → k < s.1 0 → t_u σ y.2 v k = σ k := fun k a b => t_u_o (by omega)
  refine ⟨e, fO_zS hs hf e c5 (fun j _ => by rw [c6]), ?_⟩
  rw [u_v_w (by have := hs.1; omega)]
  exact t_u_s rfl
theorem fO_gv {σ : Int → Int} {t : k_h} {pl v : Int} {s : k_s} {y : k_v} (hs : sZ s) (ht : tZ (s.1 0) t) (h : k_gv t pl s = .inr y) (hf : fO σ s) (hv : tO σ t v) (h3 : t.1 = 3 → 0 ≤ v) : ∃ τ, (∀ k, 0 ≤ k → k < s.1 0 → τ k = σ k) ∧ fO τ y.1 ∧ u_v τ y.2.2 = v ∧ y.2.1 = (if t.1 = 3 then 1 else 0) := by
  unfold k_gv at h
  split at h
  · rename_i c
    cases h
    exact ⟨σ, fun _ _ _ => rfl, hf, (hv.1 (.inl c)).symm, by rw [if_neg (by omega)]⟩
  · split at h
    · rename_i c
      obtain ⟨a, h1, h2⟩ := k_b_inv h
      cases h2
      have e := hv.1 (.inr c)
      exact ⟨σ, fun _ _ _ => rfl, fO_af hs ht.1 h1 hf (by rw [← e]; exact h3 c), e.symm, by rw [if_pos c]⟩
    · rename_i c1 c3
      obtain ⟨a, h1, h2⟩ := k_b_inv h
      obtain ⟨e1, e2, e3⟩ := fO_nv (v := v) hs h1 hf
      obtain ⟨z1, -, -, -, z2⟩ := zS_nv hs h1
      try dsimp only at h2
      split at h2
      · rename_i c2
        obtain ⟨b, h3', h4⟩ := k_b_inv h2
        cases h4
        refine ⟨t_u σ a.2 v, e1, fO_afs z1.2.2.2 (u_z_dp z2 (fun u hu => u_z_le (ht.2 u hu) z1.1)) h3' e2 (u_dp.mpr (fun u hu => ?_)), e3, by rw [if_neg c3]⟩
        rw [e3]
        exact (tO_le ht e1 hv).2 c2 u hu
      · cases h2
        exact ⟨t_u σ a.2 v, e1, e2, e3, by rw [if_neg c3]⟩
/-- goals that must be proved hold where all was accepted -/
theorem u_ag {σ : Int → Int} {f pl so : Int} {h : Int → Int} {s s' : k_s} (hs : sZ s) (hso : 2 ≤ so) (q : k_ag f pl so h s = .inr s') (ha : s'.1 4 = 1) (hf : fO σ s) : 0 ≤ u_v σ h ∧ s.1 4 = 1 ∧ fO σ s' := by
  obtain ⟨a1, a2, a3, a4⟩ := zS_ag hs q
  have hf' : fO σ s' := fO_zS hs hf (fun _ _ _ => rfl) a3 (fun j _ => by rw [a4])
  unfold k_ag at q
  split at q
  · cases q
  · cases q
    dsimp only at ha
    unfold k_gn at ha
    by_cases c : k_sp s.2.1 (s.1 1) h = 1
    · rw [if_pos c, t_u_o (by decide), t_u_o (by decide)] at ha
      exact ⟨u_sp hs.2.1 hf c, ha, hf'⟩
    · rw [if_neg c, t_u_s rfl, if_neg (by omega)] at ha
      omega
theorem u_ags {σ : Int → Int} {f pl so : Int} (hso : 2 ≤ so) : ∀ {l : List (Int → Int)} {s s' : k_s}, sZ s → k_ags f pl so l s = .inr s' → s'.1 4 = 1 → fO σ s → (∀ w ∈ l, 0 ≤ u_v σ w) ∧ s.1 4 = 1 ∧ fO σ s'
  | [], s, s', hs, q, ha, hf => by
    cases q
    exact ⟨(fun w hw => by cases hw), ha, hf⟩
  | h :: l, s, s', hs, q, ha, hf => by
    obtain ⟨s1, h1, h2⟩ := k_b_inv (show k_b (k_ag f pl so h s) (k_ags f pl so l) = .inr s' from q)
    obtain ⟨a, -⟩ := zS_ag hs h1
    have acc : s1.1 4 = 1 := by
      have : ∀ {l : List (Int → Int)} {s s' : k_s}, k_ags f pl so l s = .inr s' → s'.1 4 = 1 → s.1 4 = 1 := by
        intro l
        induction l with
        | nil => intro s s' q ha; cases q; exact ha
        | cons x l ih =>
          intro s s' q ha
          obtain ⟨s1, h1, h2⟩ := k_b_inv (show k_b (k_ag f pl so x s) (k_ags f pl so l) = .inr s' from q)
          have hb := ih h2 ha
          unfold k_ag at h1
          split at h1
          · cases h1
          · cases h1
            dsimp only at hb
            unfold k_gn at hb
            split at hb
            · rw [t_u_o (by decide), t_u_o (by decide)] at hb; exact hb
            · rw [t_u_s rfl, if_neg (by omega)] at hb; omega
      exact this h2 ha
    obtain ⟨b1, b2, b3⟩ := u_ag hs hso h1 acc hf
    obtain ⟨c1, c2, c3⟩ := u_ags hso a.2.2.2 h2 ha b3
    refine ⟨fun w hw => ?_, b2, c3⟩
    rcases List.mem_cons.mp hw with rfl | hw
    · exact b1
    · exact c1 w hw
/-- what was accepted in the end was accepted all along -/
theorem acR : kR (fun s s' => s'.1 4 = 1 → s.1 4 = 1) := by
  have ag : ∀ f pl so h (s s' : k_s), k_ag f pl so h s = .inr s' → s'.1 4 = 1 → s.1 4 = 1 := fun f pl so h s s' q ha => by
    unfold k_ag at q
    split at q
    · cases q
    · cases q
      dsimp only at ha
      unfold k_gn at ha
      split at ha
      · rw [t_u_o (by decide), t_u_o (by decide)] at ha; exact ha
      · rw [t_u_s rfl] at ha
        split at ha
        · exact ha
        · omega
  refine ⟨fun s h => h, fun s s1 s2 h1 h2 h => h1 (h2 h), fun pl s y q ha => ?_, fun pl h s s' q ha => ?_, ag, fun f pl h h' s s1 s2 r fr h1 h2 _ ha => ?_, fun v m s ha => ?_⟩
  · unfold k_nv at q
    split at q
    · cases q
    · cases q
      dsimp only at ha
      rw [t_u_o (by decide)] at ha
      exact ha
  · unfold k_af at q
    split at q
    · cases q
    · cases q
      dsimp only at ha
      rw [t_u_o (by decide)] at ha
      exact ha
  · dsimp only at ha
    rw [t_u_o (by decide), t_u_o (by decide)] at ha
    exact ag _ _ _ _ _ _ h1 (ag _ _ _ _ _ _ h2 ha)
  · unfold k_bk at ha
    dsimp only at ha
    rw [t_u_o (by decide), t_u_o (by decide)] at ha
    exact ha

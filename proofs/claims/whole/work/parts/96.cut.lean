/-! MORE LOCALS, ANOTHER END: the small machine says no less. -/
def mm_nd (ls : List (Nat × Value)) : Prop := (ls.map Prod.fst).Nodup
def mm_le (ls ls' : List (Nat × Value)) : Prop := ∀ i v, mm_get ls i = some v → mm_get ls' i = some v
theorem mm_get_none {i : Nat} : ∀ {ls : List (Nat × Value)}, i ∉ ls.map Prod.fst → mm_get ls i = none
  | [], _ => rfl
  | q :: r, h => by
    unfold mm_get
    simp only [List.map_cons, List.mem_cons, not_or] at h
    rw [if_neg (fun h' => h.1 h'.symm), mm_get_none h.2]
theorem mm_get_fil1 (p : Nat × Value → Bool) {i : Nat} {v : Value} : ∀ {ls : List (Nat × Value)}, mm_nd ls → mm_get (ls.filter p) i = some v → mm_get ls i = some v ∧ p (i, v) = true
  | [], _, h => by simp [mm_get] at h
  | q :: r, hn, h => by
    obtain ⟨j, w⟩ := q
    simp only [mm_nd, List.map_cons, List.nodup_cons] at hn
    simp only [List.filter_cons] at h
    unfold mm_get
    by_cases hp : p (j, w) = true
    · rw [if_pos hp] at h
      unfold mm_get at h
      by_cases hj : j = i
      · rw [if_pos hj] at h ⊢
        cases h
        subst hj
        exact ⟨rfl, hp⟩
      · rw [if_neg hj] at h ⊢
        exact mm_get_fil1 p hn.2 h
    · rw [if_neg hp] at h
      have h2 := mm_get_fil1 p hn.2 h
      by_cases hj : j = i
      · subst hj
        rw [mm_get_none hn.1] at h2
        cases h2.1
      · rw [if_neg hj]
        exact h2
theorem mm_get_fil2 (p : Nat × Value → Bool) {i : Nat} {v : Value} : ∀ {ls : List (Nat × Value)}, mm_get ls i = some v → p (i, v) = true → mm_get (ls.filter p) i = some v
  | [], h, _ => by simp [mm_get] at h
  | q :: r, h, hp => by
    obtain ⟨j, w⟩ := q
    unfold mm_get at h
    simp only [List.filter_cons]
    by_cases hj : j = i
    · rw [if_pos hj] at h
      cases h
      subst hj
      rw [if_pos hp]
      unfold mm_get
      rw [if_pos rfl]
    · rw [if_neg hj] at h
      have := mm_get_fil2 p h hp
      split
      · unfold mm_get
        rw [if_neg hj]
        exact this
      · exact this
theorem mm_nd_put {p : Nat × Value → Bool} {i : Nat} {v : Value} {ls : List (Nat × Value)} (hn : mm_nd ls) (hp : ∀ w, p (i, w) = false) : mm_nd ((i, v) :: ls.filter p) := by
  unfold mm_nd
  rw [List.map_cons, List.nodup_cons]
  refine ⟨fun h => ?_, ?_⟩
  · obtain ⟨⟨j, w⟩, hm, rfl⟩ := List.mem_map.mp h
    have := (List.mem_filter.mp hm).2
    rw [hp w] at this
    cases this
  · exact List.Nodup.sublist (List.Sublist.map _ List.filter_sublist) hn
theorem mm_le_put {p : Nat × Value → Bool} {i : Nat} {v : Value} {ls ls' : List (Nat × Value)} (hn : mm_nd ls) (hl : mm_le ls ls') : mm_le ((i, v) :: ls.filter p) ((i, v) :: ls'.filter p) := by
  intro j w h
  unfold mm_get at h ⊢
  split
  · rename_i hj
    rw [if_pos hj] at h
    exact h
  · rename_i hj
    rw [if_neg hj] at h
    have h2 := mm_get_fil1 p hn h
    exact mm_get_fil2 p (hl _ _ h2.1) h2.2
theorem mm_nd1 {i : Nat} {v : Value} {ls : List (Nat × Value)} (hn : mm_nd ls) : mm_nd (mm_set1 ls i v) := mm_nd_put hn (fun w => by simp)
theorem mm_nd2 {i : Nat} {v : Value} {ls : List (Nat × Value)} (hn : mm_nd ls) : mm_nd (mm_set2 ls i v) := mm_nd_put hn (fun w => by simp)
def mm_lr (ls ls' : List (Nat × Value)) : Prop := ls = ls' ∨ (mm_nd ls ∧ mm_le ls ls')
theorem mm_lr1 {i : Nat} {v : Value} {ls ls' : List (Nat × Value)} (h : mm_lr ls ls') : mm_lr (mm_set1 ls i v) (mm_set1 ls' i v) := by
  rcases h with rfl | ⟨h1, h2⟩
  · exact .inl rfl
  · exact .inr ⟨mm_nd1 h1, mm_le_put h1 h2⟩
theorem mm_lr2 {i : Nat} {v : Value} {ls ls' : List (Nat × Value)} (h : mm_lr ls ls') : mm_lr (mm_set2 ls i v) (mm_set2 ls' i v) := by
  rcases h with rfl | ⟨h1, h2⟩
  · exact .inl rfl
  · exact .inr ⟨mm_nd2 h1, mm_le_put h1 h2⟩
theorem mm_lr_get {i : Nat} {v : Value} {ls ls' : List (Nat × Value)} (h : mm_lr ls ls') (hg : mm_get ls i = some v) : mm_get ls' i = some v := by
  rcases h with rfl | ⟨h1, h2⟩
  · exact hg
  · exact h2 _ _ hg
/-- what two lists of locals must keep to -/
def mm_T3 (T : List (Nat × Value) → List (Nat × Value) → Prop) : Prop := (∀ i v ls ls', T ls ls' → T (mm_set1 ls i v) (mm_set1 ls' i v)) ∧ (∀ i v ls ls', T ls ls' → T (mm_set2 ls i v) (mm_set2 ls' i v)) ∧ (∀ i v ls ls', T ls ls' → mm_get ls i = some v → mm_get ls' i = some v)
theorem mm_T3_eq : mm_T3 Eq := ⟨fun _ _ _ _ h => by rw [h], fun _ _ _ _ h => by rw [h], fun _ _ _ _ h => by rw [h]; exact id⟩
theorem mm_T3_lr : mm_T3 mm_lr := ⟨fun _ _ _ _ h => mm_lr1 h, fun _ _ _ _ h => mm_lr2 h, fun _ _ _ _ h => mm_lr_get h⟩
/-- what the first step says, and if it says nothing, what A says -/
def mm_or (o : Option Prop) (A : Prop) : Prop := match o with
  | some X => X
  | none => A
set_option maxHeartbeats 4000000 in
theorem mm_s1_mono {T : List (Nat × Value) → List (Nat × Value) → Prop} (h3 : mm_T3 T) {nL : Nat} {nx nx' : Nat → List (Nat × Value) → List Value → Prop} {A A' : Prop} (hx : ∀ pc ls ls' st, T ls ls' → nx pc ls st → nx' pc ls' st) (hA : A → A') (ins : Instr) (pc : Nat) {ls ls' : List (Nat × Value)} (st : List Value) (hl : T ls ls') :
    mm_or (mm_s1 nL nx ins pc ls st) A → mm_or (mm_s1 nL nx' ins pc ls' st) A' := by
  have hk : ∀ pc st, nx pc ls st → nx' pc ls' st := fun pc st h => hx _ _ _ _ hl h
  unfold mm_s1
  cases mm_con ins with
  | some q => exact hk _ _
  | none =>
  cases mm_ld ins with
  | some q =>
    obtain ⟨i, u, kd⟩ := q
    dsimp only
    cases hg : mm_get ls i with
    | none => exact False.elim
    | some v =>
      simp only [h3.2.2 _ _ _ _ hl hg]
      cases mm_kind kd v with
      | true => exact hk _ _
      | false => exact id
  | none =>
  cases mm_sto ins with
  | some q =>
    obtain ⟨i, u, kd⟩ := q
    dsimp only
    cases st with
    | nil => exact id
    | cons v r =>
      dsimp only
      cases mm_kind kd v with
      | false => exact id
      | true =>
        cases decide (i + v.category ≤ nL) with
        | false => exact id
        | true =>
          dsimp only [mm_or]
          split
          · exact hx _ _ _ _ (h3.2.1 _ _ _ _ hl)
          · exact hx _ _ _ _ (h3.1 _ _ _ _ hl)
  | none =>
  cases mm_bin ins with
  | some f => dsimp only; split <;> first | exact hk _ _ | exact id
  | none =>
  cases mm_br ins st with
  | some q =>
    obtain ⟨c, o, r⟩ := q
    dsimp only
    cases mm_tgt pc o with
    | none => exact id
    | some t => exact fun h => ⟨fun hc => hk _ _ (h.1 hc), fun hc => hk _ _ (h.2 hc)⟩
  | none =>
  cases mm_stk ins st with
  | some r => exact hk _ _
  | none =>
  cases mm_binL ins with
  | some f => dsimp only; split <;> first | exact hk _ _ | exact id
  | none =>
  cases mm_div ins with
  | some f => dsimp only; split <;> first | exact fun h => ⟨h.1, hk _ _ h.2⟩ | exact id
  | none =>
  cases mm_divL ins with
  | some f => dsimp only; split <;> first | exact fun h => ⟨h.1, hk _ _ h.2⟩ | exact id
  | none =>
  cases ins with
  | goto o => dsimp only; cases mm_tgt pc o with
    | none => exact id
    | some t => exact hk _ _
  | iinc i c =>
    dsimp only
    cases hg : mm_get ls i with
    | none => exact False.elim
    | some v =>
      simp only [h3.2.2 _ _ _ _ hl hg]
      cases v with
      | int x =>
        dsimp only
        cases decide (i < nL) with
        | true => exact hx _ _ _ _ (h3.1 _ _ _ _ hl)
        | false => exact id
      | _ => exact id
  | _ => dsimp only; (repeat' split) <;> first | exact hk _ _ | exact id | exact hA
theorem mm_s2_mono {P : mm_P} {k : Nat} {eX : Nat → Nat × (Nat → Int32)} {nx nx' : Nat → List Value → List va_E → Nat → Prop} {A A' : Prop} (hx : ∀ pc st g sl, nx pc st g sl → nx' pc st g sl) (hA : A → A') (ins : Instr) (pc : Nat) (st : List Value) (g : List va_E) (sl : Nat) :
    mm_or (mm_s2 P k eX nx ins pc st g sl) A → mm_or (mm_s2 P k eX nx' ins pc st g sl) A' := by
  unfold mm_s2
  cases ins with
  | _ => dsimp only; (repeat' split) <;> first | exact hx _ _ _ _ | exact id | exact hA | exact fun h => ⟨h.1, hx _ _ _ _ h.2⟩
/-- one kind of call says no less than another, for a weaker end too -/
def mm_cm2 (call call' : mm_Call) : Prop := ∀ k as g sl (Q Q' : mm_K), (∀ o g sl, Q o g sl → Q' o g sl) → call k as g sl Q → call' k as g sl Q'
def mm_cmo (call : mm_Call) : Prop := ∀ k as g sl (Q Q' : mm_K), (∀ o g sl, Q o g sl → Q' o g sl) → call k as g sl Q → call k as g sl Q'
theorem mm_back_mono {P : mm_P} {k : Nat} {nx nx' : Nat → List Value → List va_E → Nat → Prop} {Q Q' : mm_K} (hx : ∀ pc st g sl, nx pc st g sl → nx' pc st g sl) (hQ : ∀ o g sl, Q o g sl → Q' o g sl) (pc : Nat) (r : List Value) : ∀ o g sl, mm_back P k nx Q pc r o g sl → mm_back P k nx' Q' pc r o g sl := by
  intro o g sl
  unfold mm_back
  cases o with
  | inl v => exact hx _ _ _ _
  | inr x =>
    dsimp only
    cases mm_kh P k pc x.1 with
    | none => exact hQ _ _ _
    | some h => exact fun q => ⟨q.1, hx _ _ _ _ q.2⟩
theorem mm_s3_mono {P : mm_P} {call call' : mm_Call} (hc : mm_cm2 call call') {k : Nat} {nx nx' : Nat → List Value → List va_E → Nat → Prop} {Q Q' : mm_K} (hx : ∀ pc st g sl, nx pc st g sl → nx' pc st g sl) (hQ : ∀ o g sl, Q o g sl → Q' o g sl) (ins : Instr) (pc : Nat) (st : List Value) (g : List va_E) (sl : Nat) :
    mm_s3 P call k nx Q ins pc st g sl → mm_s3 P call' k nx' Q' ins pc st g sl := by
  unfold mm_s3
  cases ins with
  | _ => dsimp only; (repeat' split) <;> first | exact id | exact hQ _ _ _ | exact hx _ _ _ _ | exact hc _ _ _ _ _ _ (mm_back_mono hx hQ _ _) | exact fun h => ⟨h.1, hQ _ _ _ h.2⟩ | exact fun h => ⟨h.1, hx _ _ _ _ h.2⟩
theorem mm_lks_mono {x : Int} {p p' : Nat → Prop} {d d' : Prop} (hp : ∀ t, p t → p' t) (hd : d → d') : ∀ ps : List (Int × Nat), mm_lks x ps p d → mm_lks x ps p' d'
  | [], h => hd h
  | (a, t) :: r, h => ⟨fun q => hp t (h.1 q), fun q => mm_lks_mono hp hd r (h.2 q)⟩
theorem mm_z_mono {P : mm_P} {eX : Nat → Nat × (Nat → Int32)} {call call' : mm_Call} (hc : mm_cm2 call call') {T : List (Nat × Value) → List (Nat × Value) → Prop} (h3 : mm_T3 T) {k : Nat} {Z Z' : mm_Z} {Q Q' : mm_K} (ih : ∀ pc ls ls' st g sl, T ls ls' → Z pc ls st g sl → Z' pc ls' st g sl) (hQ : ∀ o g sl, Q o g sl → Q' o g sl) (pc : Nat) (ls ls' : List (Nat × Value)) (st : List Value) (g : List va_E) (sl : Nat) (hl : T ls ls') (h : mm_z P eX call k Z Q pc ls st g sl) : mm_z P eX call' k Z' Q' pc ls' st g sl := by
  unfold mm_z at h ⊢
  revert h
  cases mm_xt P k pc with
  | some ci => exact fun h => ⟨h.1, hQ _ _ _ h.2⟩
  | none =>
  dsimp only
  cases mm_sw P k pc with
  | some q =>
    obtain ⟨lo, dt, ts⟩ := q
    dsimp only
    split
    · exact fun h => ⟨fun c => ih _ _ _ _ _ _ hl (h.1 c), fun i t h1 h2 => ih _ _ _ _ _ _ hl (h.2 i t h1 h2)⟩
    · exact id
  | none =>
  dsimp only
  cases mm_lk P k pc with
  | some q =>
    obtain ⟨dt, ps⟩ := q
    dsimp only
    split
    · exact mm_lks_mono (fun t h => ih _ _ _ _ _ _ hl h) (fun h => ih _ _ _ _ _ _ hl h) ps
    · exact id
  | none =>
  dsimp only
  cases mm_gs P k pc with
  | some q =>
    obtain ⟨j, u, i, w⟩ := q
    cases i with
    | zero => exact fun h => ih _ _ _ _ _ _ hl h
    | succ i =>
      dsimp only
      cases hg : mm_get ls i with
      | none => exact False.elim
      | some v =>
        simp only [h3.2.2 _ _ _ _ hl hg]
        cases v with
        | int x => exact fun h => ⟨h.1, ih _ _ _ _ _ _ hl h.2⟩
        | _ => exact id
  | none =>
  dsimp only
  cases mm_xs P k pc with
  | some q =>
    obtain ⟨a, c⟩ := q
    rcases (show a = 0 ∨ a = 1 ∨ a = 2 ∨ a = 3 ∨ a = 4 ∨ ∃ b, a = b + 5 from if h : a < 5 then (by omega) else .inr (.inr (.inr (.inr (.inr ⟨a - 5, by omega⟩))))) with rfl | rfl | rfl | rfl | rfl | ⟨b, rfl⟩
    · exact fun h => ih _ _ _ _ _ _ hl h
    · show (match st with
        | .ref q :: r => match decide (q = 1000003) with
          | true => Z (pc + 3) ls (.ref 1000004 :: r) g sl
          | false => False
        | _ => False) → (match st with
        | .ref q :: r => match decide (q = 1000003) with
          | true => Z' (pc + 3) ls' (.ref 1000004 :: r) g sl
          | false => False
        | _ => False)
      split
      · rename_i q r
        cases decide (q = 1000003) <;> first | exact id | exact fun h => ih _ _ _ _ _ _ hl h
      · exact id
    · show (match st with
        | .ref q :: r => match decide (q = 1000003) with
          | true => Z (pc + 3) ls (.int 0 :: r) g sl
          | false => False
        | _ => False) → (match st with
        | .ref q :: r => match decide (q = 1000003) with
          | true => Z' (pc + 3) ls' (.int 0 :: r) g sl
          | false => False
        | _ => False)
      split
      · rename_i q r
        cases decide (q = 1000003) <;> first | exact id | exact fun h => ih _ _ _ _ _ _ hl h
      · exact id
    · show (match st with
        | .int x :: .ref q :: r => match decide (q = 1000004) with
          | true => vp_in x (eX 4).1 ∧ Z (pc + 1) ls (.int ((eX 4).2 x.toNatClampNeg) :: r) g sl
          | false => False
        | _ => False) → (match st with
        | .int x :: .ref q :: r => match decide (q = 1000004) with
          | true => vp_in x (eX 4).1 ∧ Z' (pc + 1) ls' (.int ((eX 4).2 x.toNatClampNeg) :: r) g sl
          | false => False
        | _ => False)
      split
      · rename_i x q r
        cases decide (q = 1000004) <;> first | exact id | exact fun h => ⟨h.1, ih _ _ _ _ _ _ hl h.2⟩
      · exact id
    · show (match st with
        | .ref q :: r => match decide (q = 1000004) with
          | true => Z (pc + 1) ls (.int (Int32.ofNat (eX 4).1) :: r) g sl
          | false => False
        | _ => False) → (match st with
        | .ref q :: r => match decide (q = 1000004) with
          | true => Z' (pc + 1) ls' (.int (Int32.ofNat (eX 4).1) :: r) g sl
          | false => False
        | _ => False)
      split
      · rename_i q r
        cases decide (q = 1000004) <;> first | exact id | exact fun h => ih _ _ _ _ _ _ hl h
      · exact id
    · exact fun h => ih _ _ _ _ _ _ hl h
  | none =>
  dsimp only
  cases mm_look (mm_kd P k) pc with
  | none => exact id
  | some ins =>
    exact mm_s1_mono h3 (nx := fun pc ls st => Z pc ls st g sl) (nx' := fun pc ls st => Z' pc ls st g sl) (fun pc ls ls' st hl h => ih pc ls ls' st g sl hl h) (fun h => mm_s2_mono (nx := fun pc st g sl => Z pc ls st g sl) (nx' := fun pc st g sl => Z' pc ls' st g sl) (fun pc st g sl h => ih pc ls ls' st g sl hl h) (fun h => mm_s3_mono hc (nx := fun pc st g sl => Z pc ls st g sl) (nx' := fun pc st g sl => Z' pc ls' st g sl) (fun pc st g sl h => ih pc ls ls' st g sl hl h) hQ ins pc st g sl h) ins pc st g sl h) ins pc st hl
theorem mm_l_fold {P : mm_P} {eX : Nat → Nat × (Nat → Int32)} {call : mm_Call} (hc : mm_cmo call) {k : Nat} {Q : mm_K} {pc : Nat} {ls : List (Nat × Value)} {st : List Value} {g : List va_E} {sl : Nat} (h : mm_z P eX call k (mm_l P eX call k Q) Q pc ls st g sl) : mm_l P eX call k Q pc ls st g sl := fun Z hZ =>
  hZ _ _ _ _ _ (mm_z_mono hc mm_T3_eq (Z := mm_l P eX call k Q) (fun pc ls ls' st g sl hl q => hl ▸ q Z hZ) (fun _ _ _ q => q) pc ls ls st g sl rfl h)
theorem mm_l_mono {P : mm_P} {eX : Nat → Nat × (Nat → Int32)} {call call' : mm_Call} (hc' : mm_cmo call') (hc : mm_cm2 call call') {k : Nat} {Q Q' : mm_K} (hQ : ∀ o g sl, Q o g sl → Q' o g sl) {pc : Nat} {ls ls' : List (Nat × Value)} {st : List Value} {g : List va_E} {sl : Nat} (hl : mm_lr ls ls') (h : mm_l P eX call k Q pc ls st g sl) : mm_l P eX call' k Q' pc ls' st g sl :=
  h (fun pc ls st g sl => ∀ ls', mm_lr ls ls' → mm_l P eX call' k Q' pc ls' st g sl) (fun pc ls st g sl hz ls' hl => mm_l_fold hc' (mm_z_mono hc mm_T3_lr (fun pc ls ls' st g sl hl q => q ls' hl) hQ pc ls ls' st g sl hl hz)) ls' hl
theorem mm_call_mono {P : mm_P} {eX : Nat → Nat × (Nat → Int32)} : ∀ d, mm_cmo (mm_call P eX d)
  | 0 => fun _ _ _ _ _ _ _ h => h.elim
  | d + 1 => fun _ _ _ _ _ _ hQ h => mm_l_mono (mm_call_mono d) (mm_call_mono d) hQ (.inl rfl) h
theorem mm_call_deep {P : mm_P} {eX : Nat → Nat × (Nat → Int32)} : ∀ d d', d ≤ d' → mm_cm2 (mm_call P eX d) (mm_call P eX d')
  | 0, _, _ => fun _ _ _ _ _ _ _ h => h.elim
  | d + 1, 0, h => absurd h (by omega)
  | d + 1, d' + 1, h => fun _ _ _ _ _ _ hQ q => mm_l_mono (mm_call_mono d') (mm_call_deep d d' (by omega)) hQ (.inl rfl) q
/-! CUTS: the machine stops before chosen places (loops) and chosen calls: there it says what F and C say, two unknowns. -/
abbrev mm_F : Type := Nat → Nat → Nat → List (Nat × Value) → List Value → List va_E → Nat → mm_K → Prop
def mm_if (b : Bool) (X Y : Prop) : Prop := match b with
  | true => X
  | false => Y
theorem mm_if_eq (b : Bool) (X : Prop) : mm_if b X X = X := by cases b <;> rfl
/-- a list that grows: forced, or left as it is -/
def mm_fz (z : Bool) (g : List va_E) (k : List va_E → Prop) : Prop := match z with
  | true => mm_fg g k
  | false => k g
theorem mm_fz_eq (z : Bool) (g : List va_E) (k : List va_E → Prop) : mm_fz z g k = k g := by
  cases z
  · rfl
  · exact mm_fg_eq g k
/-- a list's own cells, not what they hold -/
def mm_fsp : List Value → (List Value → Prop) → Prop
  | [], k => k []
  | v :: r, k => mm_fsp r (fun r => k (v :: r))
theorem mm_fsp_eq : ∀ (l : List Value) (k : List Value → Prop), mm_fsp l k = k l
  | [], k => rfl
  | v :: r, k => by
    unfold mm_fsp
    rw [mm_fsp_eq r]
def mm_fqs : Nat → List va_E → (List va_E → Prop) → Prop
  | _, [], k => k []
  | 0, c :: r, k => match c with
    | .inr (ci, fs) => mm_fsp fs (fun fs => k (.inr (ci, fs) :: r))
    | .inl a => k (.inl a :: r)
  | q + 1, c :: r, k => mm_fqs q r (fun r => k (c :: r))
theorem mm_fqs_eq : ∀ (q : Nat) (l : List va_E) (k : List va_E → Prop), mm_fqs q l k = k l
  | 0, [], k => rfl
  | q + 1, [], k => rfl
  | 0, c :: r, k => by
    unfold mm_fqs
    split
    · rw [mm_fsp_eq]
    · rfl
  | q + 1, c :: r, k => by
    unfold mm_fqs
    rw [mm_fqs_eq q r]
def mm_fy (z : Bool) (c : Nat) (g : List va_E) (k : List va_E → Prop) : Prop := match c with
  | 0 => k g
  | 1 => mm_fz z g k
  | q + 2 => mm_fqs q g k
theorem mm_fy_eq (z : Bool) (c : Nat) (g : List va_E) (k : List va_E → Prop) : mm_fy z c g k = k g := by
  unfold mm_fy
  split
  · rfl
  · exact mm_fz_eq _ _ _
  · exact mm_fqs_eq _ _ _
def mm_wC (fz : Bool) (P : mm_P) (eX : Nat → Nat × (Nat → Int32)) (cut : Nat → Nat → Bool) (F : mm_F) (call : mm_Call) (d k : Nat) : Nat → Nat → List (Nat × Value) → List Value → List va_E → Nat → mm_K → Prop
  | 0, _, _, _, _, _, _ => False
  | n + 1, pc, ls, st, g, sl, Q =>
    match mm_xt P k pc with
    | some ci => (g.length + 1 ≤ mm_CM P ∧ sl + 6 ≤ mm_SM P ∧ mm_cats st ≤ 8) ∧ mm_fn (g.length + 1) (fun p => mm_fz fz (g ++ [.inr (ci, [])]) (fun g => Q (.inr (ci, p)) g (sl + 6)))
    | none =>
    match mm_sw P k pc with
    | some (lo, dt, ts) => match st with
      | .int x :: r => ((x.toInt < lo ∨ lo + (ts.length : Int) - 1 < x.toInt) → mm_if (cut k dt) (F d k dt ls r g sl Q) (mm_wC fz P eX cut F call d k n dt ls r g sl Q)) ∧ mm_swl x.toInt lo ts (fun t => mm_if (cut k t) (F d k t ls r g sl Q) (mm_wC fz P eX cut F call d k n t ls r g sl Q))
      | _ => False
    | none =>
    match mm_lk P k pc with
    | some (dt, ps) => match st with
      | .int x :: r => mm_lks x.toInt ps (fun t => mm_if (cut k t) (F d k t ls r g sl Q) (mm_wC fz P eX cut F call d k n t ls r g sl Q)) (mm_if (cut k dt) (F d k dt ls r g sl Q) (mm_wC fz P eX cut F call d k n dt ls r g sl Q))
      | _ => False
    | none =>
    match mm_gs P k pc with
    | some (j, _, 0, _) => mm_fn (pc + 4) (fun pc => mm_if (cut k pc) (F d k pc ls (.int (Int32.ofNat (eX (j + 1)).1) :: st) g sl Q) (mm_wC fz P eX cut F call d k n pc ls (.int (Int32.ofNat (eX (j + 1)).1) :: st) g sl Q))
    | some (j, _, i + 1, w) => match mm_get ls i with
      | some (.int x) => vp_in x (eX (j + 1)).1 ∧ mm_fn (pc + 3 + w + 1) (fun pc => mm_if (cut k pc) (F d k pc ls (.int ((eX (j + 1)).2 x.toNatClampNeg) :: st) g sl Q) (mm_wC fz P eX cut F call d k n pc ls (.int ((eX (j + 1)).2 x.toNatClampNeg) :: st) g sl Q))
      | _ => False
    | none =>
    match mm_xs P k pc with
    | some (0, _) => mm_fn (pc + 2) (fun pc => mm_if (cut k pc) (F d k pc ls (.ref 1000003 :: st) g sl Q) (mm_wC fz P eX cut F call d k n pc ls (.ref 1000003 :: st) g sl Q))
    | some (1, _) => match st with
      | .ref q :: r => match decide (q = 1000003) with
        | true => mm_fn (pc + 3) (fun pc => mm_if (cut k pc) (F d k pc ls (.ref 1000004 :: r) g sl Q) (mm_wC fz P eX cut F call d k n pc ls (.ref 1000004 :: r) g sl Q))
        | false => False
      | _ => False
    | some (2, _) => match st with
      | .ref q :: r => match decide (q = 1000003) with
        | true => mm_fn (pc + 3) (fun pc => mm_if (cut k pc) (F d k pc ls (.int 0 :: r) g sl Q) (mm_wC fz P eX cut F call d k n pc ls (.int 0 :: r) g sl Q))
        | false => False
      | _ => False
    | some (3, _) => match st with
      | .int x :: .ref q :: r => match decide (q = 1000004) with
        | true => vp_in x (eX 4).1 ∧ mm_fn (pc + 1) (fun pc => mm_if (cut k pc) (F d k pc ls (.int ((eX 4).2 x.toNatClampNeg) :: r) g sl Q) (mm_wC fz P eX cut F call d k n pc ls (.int ((eX 4).2 x.toNatClampNeg) :: r) g sl Q))
        | false => False
      | _ => False
    | some (4, _) => match st with
      | .ref q :: r => match decide (q = 1000004) with
        | true => mm_fn (pc + 1) (fun pc => mm_if (cut k pc) (F d k pc ls (.int (Int32.ofNat (eX 4).1) :: r) g sl Q) (mm_wC fz P eX cut F call d k n pc ls (.int (Int32.ofNat (eX 4).1) :: r) g sl Q))
        | false => False
      | _ => False
    | some (_, c) => mm_fn (pc + 3) (fun pc => mm_if (cut k pc) (F d k pc ls (.int (Int32.ofNat c) :: st) g sl Q) (mm_wC fz P eX cut F call d k n pc ls (.int (Int32.ofNat c) :: st) g sl Q))
    | none =>
    match mm_look (mm_kd P k) pc with
    | none => False
    | some ins =>
    match mm_s1 (mm_kl P k) (fun pc ls st => mm_fn pc (fun pc => mm_fls ls (fun ls => mm_fs st (fun st => mm_if (cut k pc) (F d k pc ls st g sl Q) (mm_wC fz P eX cut F call d k n pc ls st g sl Q))))) ins pc ls st with
    | some X => X
    | none =>
    match mm_s2 P k eX (fun pc st' g sl => mm_fn pc (fun pc => mm_fs st' (fun st' => mm_fy fz (mm_qi ins st) g (fun g => mm_if (cut k pc) (F d k pc ls st' g sl Q) (mm_wC fz P eX cut F call d k n pc ls st' g sl Q))))) ins pc st g sl with
    | some X => X
    | none => mm_s3 P call k (fun pc st g sl => mm_fn pc (fun pc => mm_fs st (fun st => mm_if (cut k pc) (F d k pc ls st g sl Q) (mm_wC fz P eX cut F call d k n pc ls st g sl Q)))) Q ins pc st g sl
theorem mm_wC_z (fz : Bool) (P : mm_P) (eX : Nat → Nat × (Nat → Int32)) (cut : Nat → Nat → Bool) (F : mm_F) (call : mm_Call) (d k n pc : Nat) (ls : List (Nat × Value)) (st : List Value) (g : List va_E) (sl : Nat) (Q : mm_K) : mm_wC fz P eX cut F call d k (n + 1) pc ls st g sl Q = mm_z P eX call k (fun pc ls st g sl => mm_if (cut k pc) (F d k pc ls st g sl Q) (mm_wC fz P eX cut F call d k n pc ls st g sl Q)) Q pc ls st g sl := by
  conv => lhs; unfold mm_wC
  unfold mm_z
  simp only [mm_fn_eq, mm_fls_eq, mm_fs_eq, mm_fz_eq, mm_fy_eq, mm_swl_iff]
  repeat (first | rfl | (split; skip))
theorem mm_wC_ok (fz : Bool) (P : mm_P) (eX : Nat → Nat × (Nat → Int32)) (cut : Nat → Nat → Bool) (F : mm_F) (call call' : mm_Call) (d k : Nat) (hF : ∀ pc ls st g sl Q, F d k pc ls st g sl Q → mm_l P eX call' k Q pc ls st g sl) (hc : mm_cm2 call call') (hc' : mm_cmo call') : ∀ (n pc : Nat) (ls : List (Nat × Value)) (st : List Value) (g : List va_E) (sl : Nat) (Q : mm_K), mm_wC fz P eX cut F call d k n pc ls st g sl Q → mm_l P eX call' k Q pc ls st g sl
  | 0, _, _, _, _, _, _, h => h.elim
  | n + 1, pc, ls, st, g, sl, Q, h => by
    have ih := mm_wC_ok fz P eX cut F call call' d k hF hc hc' n
    rw [mm_wC_z] at h
    refine mm_l_fold hc' (mm_z_mono hc mm_T3_eq (fun pc ls ls' st g sl hl q => ?_) (fun _ _ _ q => q) pc ls ls st g sl rfl h)
    subst hl
    cases hk : cut k pc <;> rw [hk] at q
    · exact ih _ _ _ _ _ _ q
    · exact hF _ _ _ _ _ _ q
def mm_F0 (P : mm_P) (eX : Nat → Nat × (Nat → Int32)) : mm_F := fun d k pc ls st g sl Q => mm_l P eX (mm_call P eX d) k Q pc ls st g sl
def mm_callC (fz : Bool) (P : mm_P) (eX : Nat → Nat × (Nat → Int32)) (cut : Nat → Nat → Bool) (inl : Nat → Bool) (F : mm_F) (C : Nat → mm_Call) : Nat → mm_Call
  | 0 => fun _ _ _ _ _ => False
  | d + 1 => fun k as g sl Q => ∃ n, mm_fa 0 as (fun ls => mm_wC fz P eX cut F (fun k as g sl Q => mm_if (inl k) (mm_callC fz P eX cut inl F C d k as g sl Q) (C d k as g sl Q)) d k n 0 ls [] g sl Q)
theorem mm_callC_ok (fz : Bool) (P : mm_P) (eX : Nat → Nat × (Nat → Int32)) (cut : Nat → Nat → Bool) (inl : Nat → Bool) : ∀ d, mm_cm2 (mm_callC fz P eX cut inl (mm_F0 P eX) (mm_call P eX) d) (mm_call P eX d)
  | 0 => fun _ _ _ _ _ _ _ h => h.elim
  | d + 1 => fun k as g sl Q Q' hQ h => by
    obtain ⟨n, h⟩ := h
    rw [mm_fa_eq] at h
    have ih := mm_callC_ok fz P eX cut inl d
    have h2 := mm_wC_ok fz P eX cut (mm_F0 P eX) _ (mm_call P eX d) d k (fun _ _ _ _ _ _ q => q) (fun k as g sl Q Q' hQ q => by
      cases hk : inl k <;> rw [hk] at q
      · exact mm_call_mono d _ _ _ _ _ _ hQ q
      · exact ih _ _ _ _ _ _ hQ q) (mm_call_mono d) n _ _ _ _ _ _ h
    exact mm_l_mono (mm_call_mono d) (mm_call_mono d) hQ (.inl rfl) h2
/-- a call, run; it stops at cuts and at calls that are not run along -/
theorem mm_run (fz : Bool) (cut : Nat → Nat → Bool) (inl : Nat → Bool) {P : mm_P} {eX : Nat → Nat × (Nat → Int32)} {d k : Nat} {as : List Value} {g : List va_E} {sl : Nat} {Q : mm_K}
    (h : ∀ (F : mm_F) (C : Nat → mm_Call), (∀ d k pc ls st g sl Q, mm_l P eX (mm_call P eX d) k Q pc ls st g sl → F d k pc ls st g sl Q) → (∀ d k as g sl Q, mm_call P eX d k as g sl Q → C d k as g sl Q) → mm_callC fz P eX cut inl F C d k as g sl Q) : mm_call P eX d k as g sl Q :=
  mm_callC_ok fz P eX cut inl d _ _ _ _ _ _ (fun _ _ _ q => q) (h (mm_F0 P eX) (mm_call P eX) (fun _ _ _ _ _ _ _ _ h => h) (fun _ _ _ _ _ _ h => h))
def mm_sub : List (Nat × Value) → List (Nat × Value) → Prop
  | [], _ => True
  | q :: r, ls => mm_get ls q.1 = some q.2 ∧ mm_sub r ls
theorem mm_sub_le : ∀ {ls ls' : List (Nat × Value)}, mm_sub ls ls' → mm_le ls ls'
  | [], _, _, i, v, h => by simp [mm_get] at h
  | q :: r, ls', hs, i, v, h => by
    unfold mm_get at h
    split at h
    · rename_i hq
      cases h
      subst hq
      exact hs.1
    · exact mm_sub_le hs.2 i v h
def mm_ndb : List (Nat × Value) → Bool
  | [] => true
  | q :: r => r.all (fun w => !(Nat.beq q.1 w.1)) && mm_ndb r
theorem mm_ndb_ok : ∀ {ls : List (Nat × Value)}, mm_ndb ls = true → mm_nd ls
  | [], _ => List.nodup_nil
  | q :: r, h => by
    unfold mm_ndb at h
    rw [Bool.and_eq_true] at h
    unfold mm_nd
    rw [List.map_cons, List.nodup_cons]
    refine ⟨fun hm => ?_, mm_ndb_ok h.2⟩
    obtain ⟨w, hw, he⟩ := List.mem_map.mp hm
    have := List.all_eq_true.mp h.1 w hw
    rw [he] at this
    simp at this
/-- more locals -/
theorem mm_more {P : mm_P} {eX : Nat → Nat × (Nat → Int32)} {d k pc : Nat} {ls ls' : List (Nat × Value)} {st : List Value} {g : List va_E} {sl : Nat} {Q : mm_K} (h : mm_l P eX (mm_call P eX d) k Q pc ls st g sl) (hd : mm_ndb ls = true) (hs : mm_sub ls ls') : mm_l P eX (mm_call P eX d) k Q pc ls' st g sl :=
  mm_l_mono (mm_call_mono d) (mm_call_mono d) (fun _ _ _ h => h) (.inr ⟨mm_ndb_ok hd, mm_sub_le hs⟩) h

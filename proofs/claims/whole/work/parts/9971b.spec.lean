/-! WHAT CHECK DOES, told once for both sides -/
noncomputable def k_if {α : Type} (P : Prop) (a b : α) : α := @ite α P (Classical.propDecidable P) a b
theorem k_if_t {α : Type} {P : Prop} {a b : α} (h : P) : k_if P a b = a := by
  unfold k_if
  exact @if_pos P (Classical.propDecidable P) h α a b
theorem k_if_f {α : Type} {P : Prop} {a b : α} (h : ¬ P) : k_if P a b = b := by
  unfold k_if
  exact @if_neg P (Classical.propDecidable P) h α a b
/-- a fault and its place, or what comes out -/
abbrev k_o (α : Type) : Type := (Int × Int) ⊕ α
def k_b {α β : Type} (x : k_o α) (f : α → k_o β) : k_o β := match x with
  | .inl a => .inl a
  | .inr a => f a
theorem k_b_l {α β : Type} {a : Int × Int} {f : α → k_o β} : k_b (.inl a) f = .inl a := rfl
theorem k_b_r {α β : Type} {a : α} {f : α → k_o β} : k_b (.inr a) f = f a := rfl
/-- does the goal follow? -/
noncomputable def k_sp (F : Int → Int → Int) (m : Int) (h : Int → Int) : Int := Classical.epsilon (fun r => s_pr F m h r)
theorem k_sp_1 {F : Int → Int → Int} {m r : Int} {h : Int → Int} (q : s_pr F m h r) : k_sp F m h = r := s_pr_1 (Classical.epsilon_spec (p := fun r => s_pr F m h r) ⟨r, q⟩) q
/-- numbers (0 variables, 1 facts, 2 goals, 3 those proved, 4 whether all that must be are, 5 accesses, 6 free ones), facts, goals, which nodes are free -/
abbrev k_s : Type := (Int → Int) × (Int → Int → Int) × (Int → Int → Int) × (Int → Int)
/-- a row of a table is another -/
def k_ur (F : Int → Int → Int) (j : Int) (h : Int → Int) : Int → Int → Int := fun i => if i = j then h else F i
def k_nv (pl : Int) (s : k_s) : k_o (k_s × Int) := if s.1 0 = 24 then .inl (-8, pl) else .inr ((t_u s.1 0 (s.1 0 + 1), s.2), s.1 0)
def k_af (pl : Int) (h : Int → Int) (s : k_s) : k_o k_s := if s.1 1 = 48 then .inl (-8, pl) else .inr (t_u s.1 1 (s.1 1 + 1), k_ur s.2.1 (s.1 1) h, s.2.2)
/-- a goal's numbers -/
noncomputable def k_gr (f pl sort : Int) (h : Int → Int) (s : k_s) : Int → Int := fun i => if i = 0 then f else if i = 1 then pl else if i = 2 then sort else if i = 3 then k_sp s.2.1 (s.1 1) h else if i = 4 then s.1 1 else s.1 0
noncomputable def k_gn (sort : Int) (h : Int → Int) (s : k_s) : Int → Int := if k_sp s.2.1 (s.1 1) h = 1 then t_u (t_u s.1 2 (s.1 2 + 1)) 3 (s.1 3 + 1) else t_u (t_u s.1 2 (s.1 2 + 1)) 4 (if sort ≤ 1 then s.1 4 else 0)
noncomputable def k_ag (f pl sort : Int) (h : Int → Int) (s : k_s) : k_o k_s := if s.1 2 = 200 then .inl (-8, pl) else .inr (k_gn sort h s, s.2.1, k_ur s.2.2.1 (s.1 2) (k_gr f pl sort h s), s.2.2.2)
def k_afs (pl : Int) : List (Int → Int) → k_s → k_o k_s
  | [], s => .inr s
  | h :: l, s => k_b (k_af pl h s) (k_afs pl l)
noncomputable def k_ags (f pl sort : Int) : List (Int → Int) → k_s → k_o k_s
  | [], s => .inr s
  | h :: l, s => k_b (k_ag f pl sort h s) (k_ags f pl sort l)
/-- what a relation of a gap b - a says: rows that are at least 0 -/
def k_pd (r : Int) (h : Int → Int) : List (Int → Int) := if r = 2 then [h, k_m h (-1)] else if r = 0 then [k_p h (k_n 1) (-1)] else if r = 1 then [h] else if r = 4 then [k_p (k_m h (-1)) (k_n 1) (-1)] else [k_m h (-1)]
/-- names: code, sort (0 of an index, 1 number, 2 row), what it is; the newest first -/
abbrev k_E : Type := List (Int × Int × (Int → Int))
def k_fd (w : Int) : k_E → Option (Int × (Int → Int))
  | [] => none
  | x :: l => if x.1 = w then some x.2 else k_fd w l
def k_fl (w : Int) : k_E → Option (Int × (Int → Int))
  | [] => none
  | x :: l => if x.1 = w ∧ 0 < x.2.1 then some x.2 else k_fl w l
/-- terms: factor, code, place -/
def k_tl (M : Nat → Int → Int) : Int → Nat → List (Int × Int × Int)
  | _, 0 => []
  | a, n + 1 => (M 104 a, M 105 a, M 106 a) :: k_tl M (a + 1) n
def k_ix (E : k_E) (iw : Int) : List (Int × Int × Int) → (Int → Int) → Int → k_o ((Int → Int) × Int)
  | [], h, z => .inr (h, z)
  | t :: l, h, z => if t.2.1 = 0 then k_ix E iw l (k_p h (k_n 1) t.1) z else if t.2.1 = iw then k_ix E iw l h (z + t.1) else match k_fd t.2.1 E with
    | none => .inl (-5, t.2.2)
    | some x => if x.1 = 2 then .inl (-6, t.2.2) else k_ix E iw l (k_p h x.2 t.1) z
noncomputable def k_ih (E : k_E) (iw pl : Int) (L : List (Int × Int × Int)) : k_o ((Int → Int) × Int) := k_b (k_ix E iw L k_0 0) (fun y => k_if (k_in 1000000 y.1 y.2) (.inr y) (.inl (-8, pl)))
noncomputable def k_xx (M : Nat → Int → Int) (E : k_E) (iw cp x : Int) : k_o ((Int → Int) × Int) := k_ih E iw (if 0 ≤ cp then cp else M 109 x) (k_tl M (M 107 x) (M 108 x).toNat)
/-- props: relation, gap, how often i is in it -/
noncomputable def k_rp (M : Nat → Int → Int) (E : k_E) (iw cp : Int) : Int → Nat → k_o (List (Int × (Int → Int) × Int))
  | _, 0 => .inr []
  | p, n + 1 => k_b (k_xx M E iw cp (M 110 p)) (fun a => k_b (k_xx M E iw cp (M 112 p)) (fun b => k_b (k_rp M E iw cp (p + 1) n) (fun l => .inr ((M 111 p, k_p b.1 a.1 (-1), b.2 - a.2) :: l))))
/-- a type that was looked at: kind, index, props -/
abbrev k_h : Type := Int × (Int → Int) × List (Int × (Int → Int) × Int)
noncomputable def k_rs (M : Nat → Int → Int) (E : k_E) (cp t : Int) : k_o k_h :=
  if M 113 t = 1 ∨ M 113 t = 3 then k_b (k_xx M E 0 cp (M 114 t)) (fun y => .inr (M 113 t, y.1, []))
  else if M 113 t = 2 then k_b (k_rp M E (M 115 t) cp (M 116 t) (M 117 t).toNat) (fun l => .inr (2, k_0, l))
  else .inr (0, k_0, [])
/-- what props ask of h -/
def k_dp (h : Int → Int) : List (Int × (Int → Int) × Int) → List (Int → Int)
  | [] => []
  | x :: l => k_pd x.1 (k_p x.2.1 h x.2.2) ++ k_dp h l
def k_dm (t : k_h) (h : Int → Int) : List (Int → Int) := if t.1 = 1 ∨ t.1 = 3 then k_pd 2 (k_p h t.2.1 (-1)) else k_dp h t.2.2
/-- what has a type -/
abbrev k_v : Type := k_s × Int × (Int → Int)
def k_gv (t : k_h) (pl : Int) (s : k_s) : k_o k_v :=
  if t.1 = 1 then .inr (s, 0, t.2.1)
  else if t.1 = 3 then k_b (k_af pl t.2.1 s) (fun s1 => .inr (s1, 1, t.2.1))
  else k_b (k_nv pl s) (fun y => if t.1 = 2 then k_b (k_afs pl (k_dp (k_w y.2) t.2.2) y.1) (fun s1 => .inr (s1, 0, k_w y.2)) else .inr (y.1, 0, k_w y.2))
/-- the function of that name -/
def k_ff (M : Nat → Int → Int) (w : Int) : Int → Nat → Int
  | _, 0 => -1
  | f, n + 1 => if M 86 f = w then f else k_ff M w (f + 1) n
/-- the indexes of a call -/
noncomputable def k_ci (M : Nat → Int → Int) (E : k_E) : Int → Nat → k_o (List (Int → Int))
  | _, 0 => .inr []
  | x, n + 1 => k_b (k_xx M E 0 (-1) x) (fun y => k_b (k_ci M E (x + 1) n) (fun l => .inr (y.1 :: l)))
/-- names of indexes -/
def k_en (M : Nat → Int → Int) : Int → List (Int → Int) → k_E → k_E
  | _, [], E => E
  | b, h :: l, E => k_en M (b + 1) l ((M 87 b, 0, h) :: E)
/-- what is given must be of its type -/
noncomputable def k_cg (M : Nat → Int → Int) (f pl : Int) : Int → List (Int × (Int → Int)) → k_E → k_s → k_o (k_E × k_s)
  | _, [], E, s => .inr (E, s)
  | b, x :: l, E, s => k_b (k_rs M E pl (M 92 b)) (fun t => k_b (k_ags f pl 3 (k_dm t x.2) s) (fun s1 => k_cg M f pl (b + 1) l ((M 91 b, 1 + x.1, x.2) :: E) s1))
/-- a call of g, with indexes is and values vs -/
noncomputable def k_cl (M : Nat → Int → Int) (f g pl : Int) (is : List (Int → Int)) (vs : List (Int × (Int → Int))) (s : k_s) : k_o k_v :=
  k_b (k_rp M (k_en M (4 * g) is []) 0 pl (M 89 g) (M 90 g).toNat) (fun ps => k_b (k_ags f pl 2 (k_dp k_0 ps) s) (fun s1 => k_b (k_cg M f pl (5 * g) vs (k_en M (4 * g) is []) s1) (fun y => k_b (k_rs M y.1 pl (M 94 g)) (fun t => k_gv t pl y.2))))
/-- what is given, one after the other -/
def k_ca (M : Nat → Int → Int) (W : Int → k_s → k_o k_v) : Int → Int → Nat → k_s → k_o (k_s × List (Int × (Int → Int)))
  | _, _, 0, s => .inr (s, [])
  | a, b, n + 1, s => k_b (W (M 118 a) s) (fun y => if (y.2.1 = 1) ↔ (M 113 (M 92 b) = 3) then k_b (k_ca M W (a + 1) (b + 1) n y.1) (fun q => .inr (q.1, (y.2.1, y.2.2) :: q.2)) else .inl (-6, M 102 (M 118 a)))
/-- a number is asked for -/
def k_nm (pl : Int) (x : k_o k_v) : k_o k_v := k_b x (fun y => if y.2.1 = 1 then .inl (-6, pl) else .inr y)
/-- numbers that stay small, or a new variable -/
noncomputable def k_sm (pl : Int) (h : Int → Int) (s : k_s) : k_o k_v := k_if (k_in 1000000 h 0) (.inr (s, 0, h)) (k_b (k_nv pl s) (fun y => .inr (y.1, 0, k_w y.2)))
noncomputable def k_ml (pl : Int) (h g : Int → Int) (s : k_s) : k_o k_v := k_if (k_u 0 h 0) (k_sm pl (k_m g (h 24)) s) (k_if (k_u 0 g 0) (k_sm pl (k_m h (g 24)) s) (k_b (k_nv pl s) (fun y => .inr (y.1, 0, k_w y.2))))
/-- h / n -/
def k_dv (pl n : Int) (h : Int → Int) (s : k_s) : k_o k_v := k_b (k_nv pl s) (fun y => k_b (k_af pl (k_p h (k_w y.2) (-n)) y.1) (fun s1 => k_b (k_af pl (k_p (k_m (k_p h (k_w y.2) (-n)) (-1)) (k_n 1) (n - 1)) s1) (fun s2 => .inr (s2, 0, k_w y.2))))
/-- an access of node r: length g, index h, worth (b, w) if it is a change -/
noncomputable def k_ac (f pl r : Int) (g h : Int → Int) (w : Option (Int → Int)) (s : k_s) : k_o k_v :=
  k_b (k_ag f pl 0 h s) (fun s1 => k_b (k_ag f pl 1 (k_p (k_p (k_m h (-1)) g 1) (k_n 1) (-1)) s1) (fun s2 =>
    let fr : Int := if s2.2.2.1 (s.1 2) 3 = 1 ∧ s2.2.2.1 (s1.1 2) 3 = 1 then 1 else 0
    let s3 : k_s := (t_u (t_u s2.1 5 (s2.1 5 + 1)) 6 (s2.1 6 + fr), s2.2.1, s2.2.2.1, t_u s2.2.2.2 r fr)
    match w with
    | some x => .inr (s3, 0, x)
    | none => k_b (k_nv pl s3) (fun y => .inr (y.1, 0, k_w y.2))))
def k_ct (r : Int) : Int := if r = 0 then 3 else if r = 1 then 4 else if r = 3 then 0 else 1
/-- facts of an if, the other way round -/
def k_no (pl r : Int) (h : Int → Int) (s : k_s) : k_o k_s := if r = 2 then .inr s else k_afs pl (k_pd (k_ct r) h) s
/-- back to v variables and m facts -/
def k_bk (v m : Int) (s : k_s) : k_s := (t_u (t_u s.1 0 v) 1 m, s.2)
/-- both ways of an if: pl its place, pe that of what is behind else, v variables -/
noncomputable def k_jn (pl pe v : Int) (b : Int) (h : Int → Int) (b' : Int) (h' : Int → Int) (s : k_s) : k_o k_v :=
  if b ≠ b' then .inl (-6, pe) else k_if (k_e h h' ∧ k_u v h 0) (.inr (s, b, h)) (k_b (k_nv pl s) (fun y => if b = 1 then k_b (k_af pl (k_w y.2) y.1) (fun s1 => .inr (s1, 1, k_w y.2)) else .inr (y.1, 0, k_w y.2)))
/-- STEPS: node r, looked at for a type or worked out -/
noncomputable def k_ck (M : Nat → Int → Int) (fs f : Int) : Nat → Option k_h → Int → k_E → k_s → k_o k_v
  | 0, _, _, _, _ => .inl (0, 0)
  | n + 1, w, r, E, s =>
    if M 96 r = 12 then k_b (k_ck M fs f n none (M 97 r) E s) (fun y => k_ck M fs f n w (M 98 r) E y.1)
    else if M 96 r = 13 then k_b (k_ck M fs f n none (M 98 r) E s) (fun y => if (E.length : Int) - M 88 f = 10 then .inl (-8, M 100 r) else k_ck M fs f n w (M 99 r) ((M 97 r, 1 + y.2.1, y.2.2) :: E) y.1)
    else if M 96 r = 14 then
      k_b (k_nm (M 102 (M 98 r)) (k_ck M fs f n none (M 98 r) E s)) (fun a => k_b (k_nm (M 102 (M 99 r)) (k_ck M fs f n none (M 99 r) E a.1)) (fun b =>
        let g := k_p b.2.2 a.2.2 (-1)
        k_b (k_afs (M 102 r) (k_pd (M 97 r) g) b.1) (fun s1 => k_b (k_ck M fs f n w (M 100 r) E s1) (fun y => k_b (k_no (M 102 r) (M 97 r) g (k_bk (b.1.1 0) (b.1.1 1) y.1)) (fun s2 => k_b (k_ck M fs f n w (M 101 r) E s2) (fun x =>
          match w with
          | some _ => .inr (k_bk (b.1.1 0) (b.1.1 1) x.1, 0, k_0)
          | none => k_jn (M 102 r) (M 102 (M 101 r)) (b.1.1 0) y.2.1 y.2.2 x.2.1 x.2.2 (k_bk (b.1.1 0) (b.1.1 1) x.1)))))))
    else if M 96 r = 15 then k_ck M fs f n w (M 97 r) E s
    else match w with
    | some t => k_b (k_ck M fs f n none r E s) (fun y => if (y.2.1 = 1) ↔ (t.1 = 3) then k_b (k_ags f (M 102 r) 4 (k_dm t y.2.2) y.1) (fun s1 => .inr (s1, 0, k_0)) else .inl (-6, M 102 r))
    | none =>
      if M 96 r = 0 then .inr (s, 0, k_n (M 97 r))
      else if M 96 r = 1 then (match k_fl (M 97 r) E with
        | none => .inl (-5, M 102 r)
        | some x => .inr (s, x.1 - 1, x.2))
      else if M 96 r = 5 then (match k_fl (M 97 r) E with
        | none => .inl (-5, M 98 r)
        | some x => if x.1 = 2 then .inr (s, 0, x.2) else .inl (-6, M 98 r))
      else if M 96 r = 2 ∨ M 96 r = 3 then (match k_fl (M 97 r) E with
        | none => .inl (-5, M 102 r)
        | some x => if x.1 = 2 then k_b (k_nm (M 102 (M 98 r)) (k_ck M fs f n none (M 98 r) E s)) (fun a => if M 96 r = 2 then k_ac f (M 102 r) r x.2 a.2.2 none a.1 else k_b (k_nm (M 102 (M 99 r)) (k_ck M fs f n none (M 99 r) E a.1)) (fun b => k_ac f (M 102 r) r x.2 a.2.2 (some b.2.2) b.1)) else .inl (-6, M 102 r))
      else if M 96 r = 4 then
        (let g := k_ff M (M 97 r) 0 fs.toNat
        if g < 0 then .inl (-5, M 102 r) else if M 101 r ≠ M 88 g ∨ M 99 r ≠ M 93 g then .inl (-7, M 102 r)
        else k_b (k_ci M E (M 100 r) (M 101 r).toNat) (fun is => k_b (k_ca M (fun a s => k_ck M fs f n none a E s) (M 98 r) (5 * g) (M 99 r).toNat s) (fun y => k_cl M f g (M 102 r) is y.2 y.1)))
      else if M 96 r = 6 then k_b (k_nm (M 102 (M 97 r)) (k_ck M fs f n none (M 97 r) E s)) (fun y => k_b (k_af (M 102 r) y.2.2 y.1) (fun s1 => .inr (s1, 1, y.2.2)))
      else if M 96 r = 7 then k_nm (M 102 (M 97 r)) (k_ck M fs f n none (M 97 r) E s)
      else if M 96 r = 16 then k_b (k_rs M E (-1) (M 98 r)) (fun t => k_b (k_ck M fs f n (some t) (M 97 r) E s) (fun y => k_gv t (M 102 r) y.1))
      else k_b (k_nm (M 102 (M 97 r)) (k_ck M fs f n none (M 97 r) E s)) (fun a =>
        if M 96 r = 11 then k_dv (M 102 r) (M 98 r) a.2.2 a.1
        else k_b (k_nm (M 102 (M 98 r)) (k_ck M fs f n none (M 98 r) E a.1)) (fun b =>
          if M 96 r = 10 then k_ml (M 102 r) a.2.2 b.2.2 b.1 else k_sm (M 102 r) (k_p a.2.2 b.2.2 (if M 96 r = 8 then 1 else -1)) b.1))
/-- a function's names, props and parameters -/
def k_hn (M : Nat → Int → Int) : Int → Int → Nat → k_E → k_E
  | _, _, 0, E => E
  | b, v, n + 1, E => k_hn M (b + 1) (v + 1) n ((M 87 b, 0, k_w v) :: E)
noncomputable def k_hp (M : Nat → Int → Int) : Int → Nat → k_E → k_s → k_o (k_E × k_s)
  | _, 0, E, s => .inr (E, s)
  | b, n + 1, E, s => k_b (k_rs M E (-1) (M 92 b)) (fun t => k_b (k_gv t 0 s) (fun y => k_hp M (b + 1) n ((M 91 b, 1 + y.2.1, y.2.2) :: E) y.1))
noncomputable def k_hd (M : Nat → Int → Int) (f : Int) (s : k_s) : k_o (k_E × k_s × k_h) :=
  let E := k_hn M (4 * f) 0 (M 88 f).toNat []
  let s0 : k_s := (t_u (t_u s.1 0 (M 88 f)) 1 0, s.2)
  k_b (k_rp M E 0 (-1) (M 89 f) (M 90 f).toNat) (fun ps => k_b (k_afs 0 (k_dp k_0 ps) s0) (fun s1 => k_b (k_hp M (5 * f) (M 93 f).toNat E s1) (fun y => k_b (k_rs M y.1 (-1) (M 94 f)) (fun t => .inr (y.1, y.2, t)))))

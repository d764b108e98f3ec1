section MmSound
variable {l : Launch} {D : va_G} {cl : List vw_C} {cT : Nat → Nat} {b : Nat → Nat} {z : Nat} {eX : Nat → Nat × (Nat → Int32)} {P : mm_P} {xX : Nat → Prop}
variable {TB : List Cond} {SB : List (String × Nat × String)} {tyl : List FieldType} {cn : Nat → String} {ky : Nat → MethodName} {kb : Nat → ByteArray} {hs : Nat → List (Nat × Nat × Nat × Nat)} {xc : Nat → Nat → Option Nat} {s0 : State} {a0 : Array Value} {k : Nat}
set_option maxHeartbeats 2000000 in
theorem mm_sound_n {d : Nat} {call : mm_Call} (HC : mm_HC P l D cl cT b z eX xX cn kb hs s0 d call) (ok2 : mm_ok2 P TB cl tyl cn) (ok : mm_ok3 P TB SB cl cn ky kb hs xc xX) (ok4 : mm_ok4 P TB cn kb b z eX s0) (h0 : mm_s0 TB SB cl tyl D cT xX a0 s0) {p : Program} {e : Env} {s : State} {m : MethodId} {args : Array Value} {below : List Frame} {meth : Method} {c : Code} {R : Room} {gl0 sl0 : Nat} (htr : e.platform.stackTraces = false) (C : mm_C P cn kb hs s0 z k p s m meth c)
    (g0 : List va_E) (hg0 : va_P D cl (mm_W (mm_A b z) cT 0 g0) s.heap) (hz0 : s.heap.size = z + g0.length) (hgl : g0.length = gl0) (hCM : mm_CM P ≤ R.cells + gl0) (hSM : mm_SM P ≤ R.slots + sl0) (hfr : 8 + (d + 1) ≤ R.frames) (hlo : 200 + 64 * (d + 1) ≤ R.locals) {Q : mm_K}
    (Z : mm_Z) (ih : ∀ pc ls st g sl, Z pc ls st g sl → ∀ (H : Heap) (L : Array Slot) (locs : List Loc) (cells slots : Nat), mm_R D cl cT b z eX s g H locs → lv_has L (mm_kl P k) (mm_L (mm_A b z) ls) → mm_cnt P gl0 sl0 cells slots g sl → W p l e R s m args below meth c H locs cells slots (mm_end P D cl cT b z eX xX s below gl0 sl0 Q) (F0 m pc L (mm_S (mm_A b z) st)))
    (pc : Nat) (ls : List (Nat × Value)) (st : List Value) (g : List va_E) (sl : Nat) (h : mm_z P eX call k Z Q pc ls st g sl) : ∀ (H : Heap) (L : Array Slot) (locs : List Loc) (cells slots : Nat), mm_R D cl cT b z eX s g H locs → lv_has L (mm_kl P k) (mm_L (mm_A b z) ls) → mm_cnt P gl0 sl0 cells slots g sl → W p l e R s m args below meth c H locs cells slots (mm_end P D cl cT b z eX xX s below gl0 sl0 Q) (F0 m pc L (mm_S (mm_A b z) st)) := by
    intro H L locs cells slots hR hl hcnt
    obtain ⟨hexec, hb, hml, hrt, hlocks, hown, hname, hhs, B⟩ := id C
    have hts : ∀ w ∈ TB, w.before args s = true := fun w hw => B.word (h0.1 w hw).1 (h0.1 w hw).2
    have hK := va_K.moved B.1.alike h0.2.2.2.1
    have kk : ∀ pc' st' g' sl' H' locs' cells' slots', Z pc' ls st' g' sl' → mm_R D cl cT b z eX s g' H' locs' → mm_cnt P gl0 sl0 cells' slots' g' sl' → W p l e R s m args below meth c H' locs' cells' slots' (mm_end P D cl cT b z eX xX s below gl0 sl0 Q) (F0 m pc' L (mm_S (mm_A b z) st')) := fun pc' st' g' sl' H' locs' cells' slots' hw hr hc => ih pc' ls st' g' sl' hw _ _ _ _ _ hr hl hc
    unfold mm_z at h
    split at h
    · rename_i ci hx
      exact mm_throw_ok ok2.2.2.2.2.2.2.2.2.2 ok h0 htr C hR g0 hg0 hz0 hl hx h.1 h.2 hcnt hCM hSM (by omega) (by omega)
    split at h
    · rename_i lo dt ts hsw
      obtain ⟨dflt, offs, len, d1, d2, d3⟩ := ok.2.1 _ _ _ _ _ hsw
      split at h
      · rename_i x r
        by_cases hout : x.toInt < lo ∨ lo + (ts.length : Int) - 1 < x.toInt
        · exact lv_tableOut hexec hb d1 hout d2 (kk _ _ _ _ _ _ _ _ (h.1 hout) hR hcnt)
        · have h1 : ¬ x.toInt < lo := fun q => hout (Or.inl q)
          have h2 : ¬ lo + (ts.length : Int) - 1 < x.toInt := fun q => hout (Or.inr q)
          have hi : (x.toInt - lo).toNat < ts.length := by omega
          obtain ⟨off, o1, o2⟩ := d3 _ _ (List.getElem?_eq_getElem hi)
          exact lv_tableIn hexec hb d1 h1 h2 o1 o2 (kk _ _ _ _ _ _ _ _ (h.2 _ _ (List.getElem?_eq_getElem hi) (by omega)) hR hcnt)
      · exact h.elim
    split at h
    · rename_i dt ps hlk
      obtain ⟨dflt, qs, len, d1, d2, d3, d4⟩ := ok4.1 _ _ _ _ hlk
      split at h
      · rename_i x r
        obtain ⟨t, ht, hw⟩ := mm_lks_ok ps qs.toList d4 (fun q => q) d3 h
        exact lv_lookup hexec hb d1 d2 rfl ht (kk _ _ _ _ _ _ _ _ hw hR hcnt)
      · exact h.elim
    split at h
    · rename_i j idx w hgs
      obtain ⟨d1, ⟨Cf, nf, df, hZ, hlink⟩, hT0, d2, -⟩ := ok4.2.1 _ _ _ _ _ _ hgs
      have hZs : va_Z Cf nf df (.ref (b (j + 1))) (fun q => z ≤ q) s s.heap := (va_Z.moved B.1.alike hZ).kept (fun a ha hn => B.2.2 a (by have := B.2.1; omega))
      have hTs := (va_T.moved B.1.alike hT0).kept (fun a ha hn => B.2.2 a (by have := B.2.1; omega))
      refine va_gets hexec hb hZs hR.2.2.1 hown (hts _ hlink) (fun _ q => q) d1 ?_
      exact va_tlen hexec hb hTs hR.2.2.1 rfl (d2 rfl) (kk _ _ _ _ _ _ _ _ h hR hcnt)
    · rename_i j idx i w hgs
      obtain ⟨d1, ⟨Cf, nf, df, hZ, hlink⟩, hT0, -, d2⟩ := ok4.2.1 _ _ _ _ _ _ hgs
      obtain ⟨ins, e1, e2, e3⟩ := d2 i rfl
      have hZs : va_Z Cf nf df (.ref (b (j + 1))) (fun q => z ≤ q) s s.heap := (va_Z.moved B.1.alike hZ).kept (fun a ha hn => B.2.2 a (by have := B.2.1; omega))
      have hTs := (va_T.moved B.1.alike hT0).kept (fun a ha hn => B.2.2 a (by have := B.2.1; omega))
      split at h
      · rename_i x hx
        refine va_gets hexec hb hZs hR.2.2.1 hown (hts _ hlink) (fun _ q => q) d1 ?_
        refine mm_ld_ok (A := mm_A b z) hexec hb e1 (mm_get_has hl hx) rfl e2 ?_
        exact va_ti hexec hb hTs hR.2.2.1 h.1 rfl e3 (kk _ _ _ _ _ _ _ _ h.2 hR hcnt)
      · exact h.elim
    have hA3 : mm_A b z 1000003 = b 3 := rfl
    have hA4 : mm_A b z 1000004 = b 4 := rfl
    split at h
    · rename_i c hxs
      obtain ⟨i, tx, d1, d2⟩ := (ok4.2.2.1 _ _ _ _ hxs).1 rfl
      refine va_ldcS hexec hb hown (d2.warm B.1) d1 ?_
      exact kk _ _ _ _ _ _ _ _ h hR hcnt
    · rename_i c hxs
      obtain ⟨i, d1, d2⟩ := (ok4.2.2.1 _ _ _ _ hxs).2.1 rfl
      obtain ⟨byt, hS0, hbyt⟩ := ok4.2.2.2
      have hSs := (vk_S.moved B.1.alike hS0).kept (fun a ha hn => B.2.2 a (by have := B.2.1; omega))
      split at h
      · rename_i q r
        split at h
        · rename_i hd
          have hd := of_decide_eq_true hd
          subst hd
          exact vk_getf hexec hb (hSs.1 0 (by decide)).2.2.1 hR.2.2.1 hown (hts _ d2) (fun _ q => q) d1 (kk _ _ _ _ _ _ _ _ h hR hcnt)
        · exact h.elim
      · exact h.elim
    · rename_i c hxs
      obtain ⟨i, d1, d2⟩ := (ok4.2.2.1 _ _ _ _ hxs).2.2.1 rfl
      obtain ⟨byt, hS0, hbyt⟩ := ok4.2.2.2
      have hSs := (vk_S.moved B.1.alike hS0).kept (fun a ha hn => B.2.2 a (by have := B.2.1; omega))
      split at h
      · rename_i q r
        split at h
        · rename_i hd
          have hd := of_decide_eq_true hd
          subst hd
          exact vk_getf hexec hb (hSs.1 0 (by decide)).2.1 hR.2.2.1 hown (hts _ d2) (fun _ q => q) d1 (kk _ _ _ _ _ _ _ _ h hR hcnt)
        · exact h.elim
      · exact h.elim
    · rename_i c hxs
      have d1 := (ok4.2.2.1 _ _ _ _ hxs).2.2.2.1 rfl
      obtain ⟨byt, hS0, hbyt⟩ := ok4.2.2.2
      have hSs := (vk_S.moved B.1.alike hS0).kept (fun a ha hn => B.2.2 a (by have := B.2.1; omega))
      split at h
      · rename_i x q r
        split at h
        · rename_i hd
          have hd := of_decide_eq_true hd
          subst hd
          exact va_tb hexec hb (hSs.1 0 (by decide)).2.2.2 hR.2.2.1 h.1 (v := .int ((eX 4).2 x.toNatClampNeg)) (by rw [hbyt]; rfl) d1 (kk _ _ _ _ _ _ _ _ h.2 hR hcnt)
        · exact h.elim
      · exact h.elim
    · rename_i c hxs
      have d1 := (ok4.2.2.1 _ _ _ _ hxs).2.2.2.2.1 rfl
      obtain ⟨byt, hS0, hbyt⟩ := ok4.2.2.2
      have hSs := (vk_S.moved B.1.alike hS0).kept (fun a ha hn => B.2.2 a (by have := B.2.1; omega))
      split at h
      · rename_i q r
        split at h
        · rename_i hd
          have hd := of_decide_eq_true hd
          subst hd
          exact va_tlen hexec hb (hSs.1 0 (by decide)).2.2.2 hR.2.2.1 rfl d1 (kk _ _ _ _ _ _ _ _ h hR hcnt)
        · exact h.elim
      · exact h.elim
    · rename_i a c n0 n1 n2 n3 n4 hxs
      obtain ⟨i, Cf, nf, df, d1, hZ, hlink⟩ := (ok4.2.2.1 _ _ _ _ hxs).2.2.2.2.2 (by
        have q0 : a ≠ 0 := n0
        have q1 : a ≠ 1 := n1
        have q2 : a ≠ 2 := n2
        have q3 : a ≠ 3 := n3
        have q4 : a ≠ 4 := n4
        omega)
      have hZs : va_Z Cf nf df (.int (Int32.ofNat c)) (fun q => z ≤ q) s s.heap := (va_Z.moved B.1.alike hZ).kept (fun a ha hn => B.2.2 a (by have := B.2.1; omega))
      refine va_gets hexec hb hZs hR.2.2.1 hown (hts _ hlink) (fun _ q => q) d1 ?_
      exact kk _ _ _ _ _ _ _ _ h hR hcnt
    split at h
    · exact h.elim
    · rename_i ins hlook
      have hdg := ok.1 _ _ (mm_look_mem hlook)
      dsimp only at hdg
      split at h
      · rename_i X hs1
        exact mm_s1_ok hexec hb hs1 h hdg hl (fun pc' ls' st' L' hw hl' => ih pc' ls' st' g sl hw _ _ _ _ _ hR hl' hcnt)
      rename_i hn1
      clear hn1
      split at h
      · rename_i X hs2
        exact mm_s2_ok ok2 hexec hb hts hown hname hK hs2 h hdg hR hcnt hCM hSM kk
      · rename_i hn2
        clear hn2
        have hfree : ∀ q ∈ locs, (fun q => z ≤ q) q.base := hR.2.2.1.2.2
        unfold mm_s3 at h
        split at h
        · split at h
          · rename_i x
            split at h
            · rename_i hk
              exact mm_mono (Q := MQ below (fun _ _ o t => o = .returned ((some (.int x) : Option Value).map (mm_v (mm_A b z))) ∧ t.heap = H) args s cells slots (fun q => z ≤ q)) (fun t => mm_ret_end hR hcnt h) (W.iret (v := x) hexec hb (hrt.trans hk) (fun t ht _ => ⟨rfl, ht⟩) hfree hdg hlocks)
            · rename_i ty _ hk
              exact mm_mono (Q := MQ below (fun _ _ o t => o = .returned ((some (.int x) : Option Value).map (mm_v (mm_A b z))) ∧ t.heap = H) args s cells slots (fun q => z ≤ q)) (fun t => mm_ret_end hR hcnt h.2) (W.zret (v := x) hexec hb (hrt.trans hk) h.1 (fun t ht _ => ⟨rfl, ht⟩) hfree hdg hlocks)
            · exact h.elim
          · exact h.elim
        · split at h
          · rename_i x
            split at h
            · rename_i hk
              exact mm_mono (Q := MQ below (fun _ _ o t => o = .returned ((some (.long x) : Option Value).map (mm_v (mm_A b z))) ∧ t.heap = H) args s cells slots (fun q => z ≤ q)) (fun t => mm_ret_end hR hcnt h) (W.lret (v := x) hexec hb (hrt.trans hk) (fun t ht _ => ⟨rfl, ht⟩) hfree hdg hlocks)
            · exact h.elim
          · exact h.elim
        · split at h
          · rename_i v
            split at h
            · rename_i hv
              have hv' : mm_v (mm_A b z) v = .null ∨ ∃ a, mm_v (mm_A b z) v = .ref a := by
                unfold mm_kind at hv
                split at hv <;> first | (cases hv; done) | (rename_i h1; cases h1; done) | exact Or.inr ⟨_, rfl⟩ | exact Or.inl rfl
              split at h
              · rename_i nn hk
                exact mm_mono (Q := MQ below (fun _ _ o t => o = .returned ((some v : Option Value).map (mm_v (mm_A b z))) ∧ t.heap = H) args s cells slots (fun q => z ≤ q)) (fun t => mm_ret_end hR hcnt h) (W.aret (v := mm_v (mm_A b z) v) hexec hb (hrt.trans hk) (Or.inl ⟨_, rfl⟩) hv' (fun t ht _ => ⟨rfl, ht⟩) hfree hdg hlocks)
              · rename_i nn hk
                exact mm_mono (Q := MQ below (fun _ _ o t => o = .returned ((some v : Option Value).map (mm_v (mm_A b z))) ∧ t.heap = H) args s cells slots (fun q => z ≤ q)) (fun t => mm_ret_end hR hcnt h) (W.aret (v := mm_v (mm_A b z) v) hexec hb (hrt.trans hk) (Or.inr ⟨_, rfl⟩) hv' (fun t ht _ => ⟨rfl, ht⟩) hfree hdg hlocks)
              · exact h.elim
            · exact h.elim
          · exact h.elim
        · split at h
          · split at h
            · rename_i hk
              exact mm_mono (Q := MQ below (fun _ _ o t => o = .returned ((none : Option Value).map (mm_v (mm_A b z))) ∧ t.heap = H) args s cells slots (fun q => z ≤ q)) (fun t => mm_ret_end (v := none) hR hcnt h) (W.vret hexec hb (hrt.trans hk) (fun t ht _ => ⟨rfl, ht⟩) hfree hdg hlocks)
            · exact h.elim
          · exact h.elim
        · split at h
          · rename_i i k' na hml'
            obtain ⟨o1, o2, o3, o4, o5, o6, o7, -, o8, -, -⟩ := ok.2.2.1 _ _ _ _ _ hml' (by decide) (by decide)
            have o2 := o2.resolve_left (by decide)
            obtain ⟨o9, o10⟩ := o8 (Or.inl rfl)
            split at h
            · rename_i as r htk
              split at h
              · rename_i hd
                obtain ⟨bs, hbs, hlen, hst⟩ := mm_take_ok _ _ _ _ _ htk
                rw [List.append_nil] at hbs
                subst hbs
                subst hst
                intro T hT X
                subst hT
                obtain ⟨mk, methk, ck, hn, hm, -, -, -, -, -, -, hsig⟩ := mm_kw_ok hts o1
                obtain ⟨kP, hkP, -⟩ := className_of_methodNamed hn
                have hpar : (mm_S (mm_A b z) as).length = methk.sig.parameters.length := by
                  rw [hsig] at o10
                  have := Option.some.inj o10
                  rw [mm_S, List.length_map, hlen]
                  exact this.symm
                obtain ⟨vm1, X1, st1⟩ := X.invokestatic hexec hown (hts _ o2) hn hm (Cond.static_spec hn hm (hts _ o9)) hkP (Cond.initialized_spec (findClass_of_methodNamed hn) hkP (hts _ o3)) o4 (g := F0 m pc L (mm_S (mm_A b z) (as.reverse ++ r))) rfl (argsL := mm_S (mm_A b z) as) (rest := mm_S (mm_A b z) r) hpar (by simp [mm_S]) (by rw [hb]; exact hdg)
                obtain ⟨t, ht, hend⟩ := mm_go HC ok h0 htr C X1 hR hl hcnt hCM hSM hfr hlo (by rw [hb]; exact hdg) (of_decide_eq_true hd) o1 o5 o6 o7 hn h kk
                exact ⟨t, st1 _ ht, hend⟩
              · exact h.elim
            · exact h.elim
          · rename_i i k' na hml'
            obtain ⟨o1, -, o3, o4, o5, o6, o7, on, o8, -, -⟩ := ok.2.2.1 _ _ _ _ _ hml' (by decide) (by decide)
            obtain ⟨host, o2⟩ := on rfl
            obtain ⟨o9, o10⟩ := o8 (Or.inr rfl)
            split at h
            · rename_i as r htk
              split at h
              · rename_i hd
                obtain ⟨bs, hbs, hlen, hst⟩ := mm_take_ok _ _ _ _ _ htk
                rw [List.append_nil] at hbs
                subst hbs
                subst hst
                intro T hT X
                subst hT
                obtain ⟨mk, methk, ck, hn, hm, -, -, -, -, -, -, hsig⟩ := mm_kw_ok hts o1
                obtain ⟨kP, hkP, -⟩ := className_of_methodNamed hn
                have hpar : (mm_S (mm_A b z) as).length = methk.sig.parameters.length := by
                  rw [hsig] at o10
                  have := Option.some.inj o10
                  rw [mm_S, List.length_map, hlen]
                  exact this.symm
                obtain ⟨vm1, X1, st1⟩ := X.invokestaticNest hexec hown (hts _ o2) hn hm (Cond.static_spec hn hm (hts _ o9)) hkP (Cond.initialized_spec (findClass_of_methodNamed hn) hkP (hts _ o3)) o4 (g := F0 m pc L (mm_S (mm_A b z) (as.reverse ++ r))) rfl (argsL := mm_S (mm_A b z) as) (rest := mm_S (mm_A b z) r) hpar (by simp [mm_S]) (by rw [hb]; exact hdg)
                obtain ⟨t, ht, hend⟩ := mm_go HC ok h0 htr C X1 hR hl hcnt hCM hSM hfr hlo (by rw [hb]; exact hdg) (of_decide_eq_true hd) o1 o5 o6 o7 hn h kk
                exact ⟨t, st1 _ ht, hend⟩
              · exact h.elim
            · exact h.elim
          · rename_i i k' na hml'
            obtain ⟨o1, o2, o3, o4⟩ := ok.2.2.2.2.1 _ _ _ _ hml'
            split at h
            · rename_i n' dp q2 sp q1 r
              split at h
              · rename_i n1 f1 hq1
                split at h
                · rename_i n2 f2 hq2
                  split at h
                  · rename_i hd
                    have hd := of_decide_eq_true hd
                    obtain ⟨⟨x1, x2, x3, x4, x5⟩, x6⟩ := h
                    have hty := mm_ty hK (ok2.2.2.2.2.1 .long _ _ rfl).1
                    have hnat : nativeFrameWords "java/lang/System" "arraycopy" 5 ≤ 100 := by decide +kernel
                    have hloc : ((mm_S (mm_A b z) r).map fun v => v.category).sum + (nativeFrameWords "java/lang/System" "arraycopy" 5 + 11) ≤ R.locals := by
                      rw [mm_cats_S]; omega
                    have hfr1 : 1 ≤ R.frames := by omega
                    refine va_copyl (A := fun q => z ≤ q) (H0 := H) hexec hb (by rw [hml]; exact hl.1.symm) hown (hts _ o1) (hts _ o2) (hts _ o3) (hts _ o4) hK hR.2.1 hR.D ⟨Nat.le_refl _, fun _ _ _ => rfl, hR.2.2.1.2.2⟩ q1 q2 1 1 (mm_at hR hq1) (mm_at hR hq2) hty hty rfl x1 x2 x3 x4 x5 (fun _ _ => rfl) hfr1 hloc hdg fun H1 locs1 hP1 hD1 hS1 => ?_
                    intro T hT X
                    have hup := X.heapSize
                    rw [hT] at hup
                    obtain ⟨c1, c2, c3, c4⟩ := hcnt
                    have hsz : H1.size = H.size := by have := hS1.1; have := hR.1; omega
                    have hS2 : va_S (fun q => z ≤ q) s.heap H1 locs1 := ⟨Nat.le_trans hR.2.2.1.1 hS1.1, fun q hq hn => by rw [hS1.2.1 q (by have := hR.2.2.1.1; omega) hn]; exact hR.2.2.1.2.1 q hq hn, hS1.2.2⟩
                    exact kk _ _ _ _ _ _ _ _ x6 (hR.set (e' := .inl (1, n2, .inr (.inl (va_cpy f1 f2 sp.toNatClampNeg dp.toNatClampNeg n'.toNatClampNeg)))) hP1 hS2 hsz) ⟨by rw [List.length_set]; exact c1, c2, by rw [List.length_set]; exact c3, c4⟩ T hT X
                  · exact h.elim
                · exact h.elim
              · exact h.elim
            · exact h.elim
          · exact h.elim
        · split at h
          · rename_i i k' na hml'
            obtain ⟨o1, o2, o3, o4, o5, o6, o7, -, -, o8, -⟩ := ok.2.2.1 _ _ _ _ _ hml' (by decide) (by decide)
            have o2 := o2.resolve_left (by decide)
            obtain ⟨o9, o10, o11, Tc, Nc, o12⟩ := o8 rfl
            split at h
            · rename_i as r htk
              split at h
              · rename_i hd
                obtain ⟨hd1, hd2⟩ := Bool.and_eq_true _ _ |>.mp hd
                obtain ⟨bs, hbs, hlen, hst⟩ := mm_take_ok _ _ _ _ _ htk
                rw [List.append_nil] at hbs
                subst hbs
                subst hst
                intro T hT X
                subst hT
                obtain ⟨mk, methk, ck, hn, hm, -, -, -, -, -, -, hsig⟩ := mm_kw_ok hts o1
                unfold mm_recv at hd2
                split at hd2
                · rename_i q as'
                  split at hd2
                  · rename_i ci fs hq
                    have hci := of_decide_eq_true hd2
                    subst hci
                    obtain ⟨rr, hrr, cell, e1, e2, e3, -⟩ := hR.2.1 q _ (mm_at hR hq)
                    obtain ⟨mk', methk', hn', hm', hst', hab'⟩ := Cond.instanceMethod_spec (hts _ o9)
                    cases Option.some.inj (hn.symm.trans hn')
                    cases Option.some.inj (hm.symm.trans hm')
                    obtain ⟨c2, r2, m2, q1, q2, q3, q4, kP, hkP, hkPi⟩ := Cond.selects_spec (hts _ o10)
                    have hcls : cell.cls = c2 := by
                      have := (hK.1 _ _ o12).2.1
                      rw [e2]
                      exact Option.some.inj (this.symm.trans q1)
                    cases Option.some.inj ((State.methodFound?_of_named hn o4).symm.trans q2)
                    cases Option.some.inj (hn.symm.trans q3)
                    have hpar : (mm_S (mm_A b z) as').length = methk.sig.parameters.length := by
                      rw [hsig] at o11
                      have := Option.some.inj o11
                      dsimp only at this
                      rw [mm_S, List.length_map]
                      simp at hlen
                      omega
                    obtain ⟨vm1, X1, st1⟩ := X.invokevirtual hexec hown (hts _ o2) hn hm hst' hkP hkPi o4 (a := mm_A b z (q + 1)) (cell := cell) e1 (fun x hx' => by rw [e3] at hx'; cases hx') (by rw [Launch.admits_selectMethod X.admits, hcls]; exact q4) hm hab' hkP hkPi (g := F0 m pc L (mm_S (mm_A b z) ((Value.ref (q + 1) :: as').reverse ++ r))) rfl (argsL := mm_S (mm_A b z) as') (rest := mm_S (mm_A b z) r) hpar (by simp [mm_S, mm_v]) (by rw [hb]; exact hdg)
                    obtain ⟨t, ht, hend⟩ := mm_go HC ok h0 htr C X1 hR hl hcnt hCM hSM hfr hlo (by rw [hb]; exact hdg) (of_decide_eq_true hd1) o1 o5 o6 o7 hn h kk
                    exact ⟨t, st1 _ ht, hend⟩
                  · cases hd2
                · cases hd2
              · exact h.elim
            · exact h.elim
          · rename_i i k' na hml'
            obtain ⟨o1, o2, o3, o4, o5, o6, o7, -, -, -, -, o8⟩ := ok.2.2.1 _ _ _ _ _ hml' (by decide) (by decide)
            have o2 := o2.resolve_left (by decide)
            obtain ⟨o9, o10, o11, o12⟩ := o8 rfl
            split at h
            · rename_i as r htk
              split at h
              · rename_i hd
                obtain ⟨hd1, hd2⟩ := Bool.and_eq_true _ _ |>.mp hd
                obtain ⟨bs, hbs, hlen, hst⟩ := mm_take_ok _ _ _ _ _ htk
                rw [List.append_nil] at hbs
                subst hbs
                subst hst
                intro T hT X
                subst hT
                obtain ⟨mk, methk, ck, hn, hm, -, -, -, -, -, -, hsig⟩ := mm_kw_ok hts o1
                unfold mm_isS at hd2
                split at hd2
                · rename_i q as'
                  have hq := of_decide_eq_true hd2
                  subst hq
                  obtain ⟨byt, hS0, hbyt⟩ := ok4.2.2.2
                  have hSs := (vk_S.moved B.1.alike hS0).kept (fun a ha hn => B.2.2 a (by have := B.2.1; omega))
                  obtain ⟨cell, e1, e3, e2⟩ := vk_recv hSs (i := 0) (by decide) hR.2.2.1
                  obtain ⟨mk', methk', hn', hm', hst', hab'⟩ := Cond.instanceMethod_spec (hts _ o9)
                  cases Option.some.inj (hn.symm.trans hn')
                  cases Option.some.inj (hm.symm.trans hm')
                  obtain ⟨c2, r2, m2, q1, q2, q3, q4, kP, hkP, hkPi⟩ := Cond.selects_spec (hts _ o10)
                  have hcls : cell.cls = c2 := by
                    rw [o12] at q1
                    exact Option.some.inj (e2.symm.trans q1)
                  cases Option.some.inj ((State.methodFound?_of_named hn o4).symm.trans q2)
                  cases Option.some.inj (hn.symm.trans q3)
                  have hpar : (mm_S (mm_A b z) as').length = methk.sig.parameters.length := by
                    rw [hsig] at o11
                    have := Option.some.inj o11
                    dsimp only at this
                    rw [mm_S, List.length_map]
                    simp at hlen
                    omega
                  obtain ⟨vm1, X1, st1⟩ := X.invokevirtual hexec hown (hts _ o2) hn hm hst' hkP hkPi o4 (a := b 3) (cell := cell) e1 (fun x hx' => by rw [hx'] at e3; cases e3) (by rw [Launch.admits_selectMethod X.admits, hcls]; exact q4) hm hab' hkP hkPi (g := F0 m pc L (mm_S (mm_A b z) ((Value.ref 1000003 :: as').reverse ++ r))) rfl (argsL := mm_S (mm_A b z) as') (rest := mm_S (mm_A b z) r) hpar (by simp [mm_S, mm_v, hA3]) (by rw [hb]; exact hdg)
                  obtain ⟨t, ht, hend⟩ := mm_go HC ok h0 htr C X1 hR hl hcnt hCM hSM hfr hlo (by rw [hb]; exact hdg) (of_decide_eq_true hd1) o1 o5 o6 o7 hn h kk
                  exact ⟨t, st1 _ ht, hend⟩
                · cases hd2
              · exact h.elim
            · exact h.elim
          · exact h.elim
        · split at h
          · rename_i i k' na hml'
            obtain ⟨o1, o2, o3, o4, o5, o6, o7, -, -, -, o8, -⟩ := ok.2.2.1 _ _ _ _ _ hml' (by decide) (by decide)
            have o2 := o2.resolve_left (by decide)
            obtain ⟨o9, o10, o11, o12, o13⟩ := o8 rfl
            split at h
            · rename_i as r htk
              split at h
              · rename_i hd
                obtain ⟨hd1, hd2⟩ := Bool.and_eq_true _ _ |>.mp hd
                obtain ⟨bs, hbs, hlen, hst⟩ := mm_take_ok _ _ _ _ _ htk
                rw [List.append_nil] at hbs
                subst hbs
                subst hst
                intro T hT X
                subst hT
                unfold mm_isref at hd2
                split at hd2
                · rename_i q as'
                  have hcode := o12
                  have hpar : ∀ sig, parseMethodDescriptor (ky k').desc = some sig → (mm_S (mm_A b z) as').length = sig.parameters.length := by
                    intro sig hsig
                    rw [hsig] at o13
                    have := Option.some.inj o13
                    dsimp only at this
                    rw [mm_S, List.length_map]
                    simp at hlen
                    omega
                  have hpl : e.platform.magicAccessors = ({} : Platform).magicAccessors := by rw [X.admits.platform]
                  obtain ⟨mk, methM, cM, kP, vm1, hn, hm, -, -, -, -, -, -, hW1, st1⟩ := Steps.initColdArgs (e := e) X.here hexec X.warmed hpl hown o10 o4 (hts _ o2) (hts _ o9) (hts _ hcode) (f := F0 m pc L (mm_S (mm_A b z) ((Value.ref q :: as').reverse ++ r))) rfl (a := mm_A b z q) (argsL := mm_S (mm_A b z) as') (rest := mm_S (mm_A b z) r) hpar (by simp [mm_S, mm_v]) (by rw [hb]; exact hdg)
                  have X1 := X.noted hW1
                  obtain ⟨t, ht, hend⟩ := mm_go HC ok h0 htr C X1 hR hl hcnt hCM hSM hfr hlo (by rw [hb]; exact hdg) (of_decide_eq_true hd1) o1 o5 o6 o7 hn h kk
                  exact ⟨t, st1 _ ht, hend⟩
                · cases hd2
              · exact h.elim
            · exact h.elim
          · rename_i i k' na hml'
            obtain ⟨o1, o2, o3⟩ := ok.2.2.2.1 _ _ _ _ hml'
            split at h
            · rename_i q r
              split at h
              · rename_i hd
                have hd := of_decide_eq_true hd
                exact W.objInit hexec hb hown (hts _ o1) (hts _ o2) (hts _ o3) rfl (by rw [hml]; exact hl.1) rfl hdg (by omega) (by show 2 * 0 + ((mm_S (mm_A b z) r).map fun v => v.category).sum + 12 ≤ R.locals; rw [mm_cats_S]; omega) (kk _ _ _ _ _ _ _ _ h hR hcnt)
              · exact h.elim
            · exact h.elim
          · exact h.elim
        · exact h.elim
theorem mm_sound (ok2 : mm_ok2 P TB cl tyl cn) (ok : mm_ok3 P TB SB cl cn ky kb hs xc xX) (ok4 : mm_ok4 P TB cn kb b z eX s0) (h0 : mm_s0 TB SB cl tyl D cT xX a0 s0) : ∀ d, mm_HC P l D cl cT b z eX xX cn kb hs s0 d (mm_call P eX d)
  | 0 => fun _ _ _ _ _ h => False.elim h
  | d + 1 => by
    intro k' as g sl Q' h p e s m args below meth c R H L htr C hH hR hl hg hs' hCM hSM hfr hlo
    have hP : va_P D cl (mm_W (mm_A b z) cT 0 g) s.heap := by rw [hH]; exact hR.2.1
    have hz : s.heap.size = z + g.length := by rw [hH]; exact hR.1
    exact h (fun pc ls st g2 sl2 => ∀ (H : Heap) (L : Array Slot) (locs : List Loc) (cells slots : Nat), mm_R D cl cT b z eX s g2 H locs → lv_has L (mm_kl P k') (mm_L (mm_A b z) ls) → mm_cnt P g.length sl cells slots g2 sl2 → W p l e R s m args below meth c H locs cells slots (mm_end P D cl cT b z eX xX s below g.length sl Q') (F0 m pc L (mm_S (mm_A b z) st))) (fun pc ls st g2 sl2 hz2 => mm_sound_n (mm_sound ok2 ok ok4 h0 d) ok2 ok ok4 h0 htr C g hP hz rfl hCM hSM (by omega) (by omega) _ (fun _ _ _ _ _ q => q) pc ls st g2 sl2 hz2) _ _ _ _ _ hR hl ⟨Nat.zero_add _, Nat.zero_add _, hg, hs'⟩
end MmSound
/-- lookups, and the handlers of a method, as functions -/
def mm_fd {α : Type} : List (Nat × α) → Nat → Option α
  | [], _ => none
  | q :: r, i => if q.1 = i then some q.2 else mm_fd r i
theorem mm_fd_mem {α : Type} {i : Nat} {v : α} : ∀ {l : List (Nat × α)}, mm_fd l i = some v → (i, v) ∈ l
  | [], h => by simp [mm_fd] at h
  | q :: r, h => by
    unfold mm_fd at h
    split at h
    · rename_i hq
      cases h
      subst hq
      exact List.mem_cons_self
    · exact List.mem_cons_of_mem _ (mm_fd_mem h)
def mm_khf (hs : Nat → List (Nat × Nat × Nat × Nat)) (xc : Nat → Nat → Option Nat) (k pc ci : Nat) : Option Nat :=
  if (hs k).any (fun x => decide (x.1 ≤ pc ∧ pc < x.2.1)) = true then (match mm_hit (xc k) pc ci (hs k) with | some h => some h | none => some 999999) else none
theorem mm_khf_ok (hs : Nat → List (Nat × Nat × Nat × Nat)) (xc : Nat → Nat → Option Nat) (k pc ci : Nat) : (∀ h, mm_khf hs xc k pc ci = some h → h ≠ 999999 → mm_hit (xc k) pc ci (hs k) = some h) ∧ (mm_khf hs xc k pc ci = none → ∀ x ∈ hs k, ¬ (x.1 ≤ pc ∧ pc < x.2.1)) := by
  unfold mm_khf
  constructor
  · intro h hh hn
    split at hh
    · split at hh
      · rename_i h' hq; cases hh; exact hq
      · cases hh; exact absurd rfl hn
    · cases hh
  · intro hh x hx hc
    split at hh
    · split at hh <;> cases hh
    · rename_i hany
      exact hany (List.any_eq_true.mpr ⟨x, hx, decide_eq_true hc⟩)

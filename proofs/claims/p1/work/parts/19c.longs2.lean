/-! Long numbers: stores, quotients, ends; calls of an object's method with long numbers. -/
noncomputable def xlz {R : Type} (i : Nat) : List xO → (List xO → Option R) → Option R := Nat.rec (motive := fun _ => List xO → (List xO → Option R) → Option R) (fun ls k => List.rec (motive := fun _ => Option R) none (fun _ t _ => k (none :: t)) ls) (fun _ ih ls k => List.rec (motive := fun _ => Option R) none (fun a t _ => ih t (fun t' => k (a :: t'))) ls) i
theorem xlz_s {R : Type} : ∀ {i : Nat} {ls : List xO} {k : List xO → Option R} {x : R}, xlz i ls k = some x → i < ls.length ∧ k (ls.set i none) = some x
  | 0, [], k, x, h => by cases h
  | 0, a :: t, k, x, h => ⟨Nat.succ_pos _, h⟩
  | i + 1, [], k, x, h => by cases h
  | i + 1, a :: t, k, x, h => by
    obtain ⟨h1, h2⟩ := xlz_s (i := i) (ls := t) (k := fun t' => k (a :: t')) (x := x) h
    exact ⟨Nat.succ_lt_succ h1, h2⟩
theorem xL_put2 {ad : Nat → Nat} {lsA ls' : Array Slot} {nL i : Nat} {ls : List xO} {v : xV} (h : xL ad lsA nL ls) (hi : i + 1 < nL) (hv : xlong v = true) (h2 : lv_has ls' nL ((i, xval ad v) :: (xcl ad ls).filter (fun q => !(q.1 == i) && (!(q.1 == i + 1) && !(q.1 + 1 == i && q.2.category == 2))))) : xL ad ls' nL ((ls.set i (some v)).set (i + 1) none) := by
  have hn := h.1
  refine ⟨by rw [List.length_set, List.length_set]; exact hn, h2.1, h2.2.1, fun q hq => ?_⟩
  have hc := xcl_mem.mp hq
  unfold xclaim at hc
  have hil : i < ls.length := by omega
  have hil2 : i + 1 < (ls.set i (some v)).length := by rw [List.length_set]; omega
  by_cases e1 : q.1 = i + 1
  · rw [e1, List.getElem?_set_self hil2] at hc
    cases hc
  rw [List.getElem?_set_ne (Ne.symm e1)] at hc
  by_cases e : q.1 = i
  · rw [e, List.getElem?_set_self hil, List.getElem?_set_self hil2] at hc
    simp at hc
    rw [← hc]
    exact h2.2.2 (i, xval ad v) List.mem_cons_self
  · rw [List.getElem?_set_ne (Ne.symm e)] at hc
    revert hc
    cases hq1 : ls[q.1]? with
    | none => intro hc; cases hc
    | some o =>
      cases o with
      | none => intro hc; cases hc
      | some w =>
        intro hc
        dsimp only at hc
        by_cases e2 : q.1 + 1 = i
        · have e3 : ((ls.set i (some v)).set (i + 1) none)[q.1 + 1]? = some (some v) := by
            rw [List.getElem?_set_ne (by omega), e2, List.getElem?_set_self hil]
          by_cases hw : xlong w = true
          · rw [if_pos ⟨hw, by rw [e3]; simp⟩] at hc
            cases hc
          · rw [if_neg (fun z => hw z.1)] at hc
            have hq2 : q = (q.1, xval ad w) := (Option.some.inj hc).symm
            refine h2.2.2 q (List.mem_cons_of_mem _ (List.mem_filter.mpr ⟨xcl_mem.mpr ?_, ?_⟩))
            · unfold xclaim
              rw [hq1]
              dsimp only
              rw [if_neg (fun z => hw z.1)]
              exact hc
            · have hcat : q.2.category = 1 := by rw [hq2]; exact xval_cat (by simpa using hw)
              simp [e, e1, hcat]
        · have e3 : ((ls.set i (some v)).set (i + 1) none)[q.1 + 1]? = ls[q.1 + 1]? := by
            rw [List.getElem?_set_ne (by omega), List.getElem?_set_ne (by omega)]
          rw [e3] at hc
          refine h2.2.2 q (List.mem_cons_of_mem _ (List.mem_filter.mpr ⟨xcl_mem.mpr ?_, ?_⟩))
          · unfold xclaim
            rw [hq1]
            exact hc
          · simp [e, e1, e2]
noncomputable def h_lstore {d : Nat} (i : Nat) (k : xK d) : xK d := fun h c ls st => xpop st (fun v st => xlng v (fun _ => xlp i ls v (fun ls => xlz (Nat.succ i) ls (fun ls => k h c ls st))))
noncomputable def h_ldivr {d : Nat} (f : Nat → Nat → Nat) (k : xK d) : xK d := fun h c ls st => xpop st (fun v st => xpop st (fun u st => xlng v (fun b => xlng u (fun a => xck (Nat.blt a 9223372036854775808) (xck (Nat.blt b 9223372036854775808) (xck (Nat.blt 0 b) (xst (f a b) (fun m => k h c ls (Sum.inr (Sum.inl m) :: st)))))))))
noncomputable def h_labs {d : Nat} (k : xK d) : xK d := fun h c ls st => xpop st (fun v st => xlng v (fun a => xck (Nat.blt a 9223372036854775808) (xsmall 8 st (k h c ls (Sum.inr (Sum.inl a) :: st)))))
noncomputable def h_lret {d : Nat} (dl : Nat) (fs : List xF) (ih : xS d → xR d) : xK d := fun h c _ st => xpop st (fun v st => xlng v (fun _ => xnil st (xretv dl fs ih v h c)))
noncomputable def h_callvL {d : Nat} (b0 b1 nA nL kc : Nat) (pads : List xO) (dl : Nat) (fs : List xF) (ih : xS d → xR d) : xK d := fun h c ls st => xargl nA st pads (fun acc st => xpop st (fun v st => xobj v (fun q => xck (Nat.blt q (Prod.fst c)) (xck (Nat.beq (Prod.fst (xget d h q)) kc) (xck (Nat.beq (Nat.succ (List.length acc)) nL) (xsmall 8 st (xdown dl (fun m => ih (h, (c, (m, ((b0, (some v :: acc, [])), (b1, (ls, st)) :: fs))))))))))))
section XLO2
variable {l : Launch} {Dg : va_G} {cl : List vw_C} {tys : List (ClassId × FieldType)} {cA fl : Nat → Nat} {ft : Nat → Nat → Nat} {base : Nat} {adS : Nat → Nat} {GW : List Cond}
variable {xy : Nat → MethodName} {xc : Nat → ByteArray} {xn : Nat → Nat} {xr : Nat → Option FieldType} {Ex : State → Heap → Prop} {d e : Nat} {code : xBT (xB d) e} {bm bp : Nat → Nat}
variable {K n dl mi pc : Nat} {fs : List xF} {fin : xE d} {j k : xK d}
theorem s_lstore_n {i : Nat} {q : Fin 4} (hi : (q : Nat) = i) (hd : decode (xc mi) pc = .ok (.lstore_n q, 1)) (hk : xSK l Dg cl tys cA fl ft base adS GW xy xc xn xr Ex code K dl fs fin mi (pc + 1) k) : xSK l Dg cl tys cA fl ft base adS GW xy xc xn xr Ex code K dl fs fin mi pc (h_lstore i k) := by
  refine hk.pure fun h c ls st hh => ?_
  obtain ⟨v, t, rfl, hh1⟩ := xpop_s hh
  obtain ⟨m, rfl, hh2⟩ := xlng_s hh1
  obtain ⟨h1, hh3⟩ := xlp_s hh2
  obtain ⟨h2, hh4⟩ := xlz_s hh3
  rw [List.length_set] at h2
  exact ⟨_, _, hh4, fun p e R s m0 args below meth cd H locs lsA cells slots Q X N w => lv_lstore_n (x := lN m) X.1 X.2.1 hd hi N.2.2.2.2.2 (by rw [← N.2.2.2.2.1]; exact h2) rfl (fun ls' hl => w ls' (xL_put2 (v := .inr (.inl m)) N.2.2.2.2 (by rw [← N.2.2.2.2.1]; exact h2) rfl hl))⟩
theorem s_lstore {i : Nat} (hd : decode (xc mi) pc = .ok (.lstore i, 2)) (hk : xSK l Dg cl tys cA fl ft base adS GW xy xc xn xr Ex code K dl fs fin mi (pc + 2) k) : xSK l Dg cl tys cA fl ft base adS GW xy xc xn xr Ex code K dl fs fin mi pc (h_lstore i k) := by
  refine hk.pure fun h c ls st hh => ?_
  obtain ⟨v, t, rfl, hh1⟩ := xpop_s hh
  obtain ⟨m, rfl, hh2⟩ := xlng_s hh1
  obtain ⟨h1, hh3⟩ := xlp_s hh2
  obtain ⟨h2, hh4⟩ := xlz_s hh3
  rw [List.length_set] at h2
  exact ⟨_, _, hh4, fun p e R s m0 args below meth cd H locs lsA cells slots Q X N w => lv_lstore (x := lN m) X.1 X.2.1 hd N.2.2.2.2.2 (by rw [← N.2.2.2.2.1]; exact h2) rfl (fun ls' hl => w ls' (xL_put2 (v := .inr (.inl m)) N.2.2.2.2 (by rw [← N.2.2.2.2.1]; exact h2) rfl hl))⟩
theorem xl_ne {b : Nat} (hb : b < 9223372036854775808) (h0 : 0 < b) : ¬ lN b = 0 := by
  intro z
  have h1 : lN b = lN 0 := z
  rw [xl_eq] at h1
  have h2 : (b + 9223372036854775808) % 18446744073709551616 = (0 + 9223372036854775808) % 18446744073709551616 := h1
  omega
theorem s_ldiv (hd : decode (xc mi) pc = .ok (.ldiv, 1)) (hk : xSK l Dg cl tys cA fl ft base adS GW xy xc xn xr Ex code K dl fs fin mi (pc + 1) k) : xSK l Dg cl tys cA fl ft base adS GW xy xc xn xr Ex code K dl fs fin mi pc (h_ldivr Nat.div k) := by
  refine hk.pure fun h c ls st hh => ?_
  obtain ⟨v, t, rfl, hh1⟩ := xpop_s hh
  obtain ⟨u, t, rfl, hh2⟩ := xpop_s hh1
  obtain ⟨b, rfl, hh3⟩ := xlng_s hh2
  obtain ⟨a, rfl, hh4⟩ := xlng_s hh3
  obtain ⟨ha, hh5⟩ := xck_s hh4
  obtain ⟨hb, hh6⟩ := xck_s hh5
  obtain ⟨h0, hh7⟩ := xck_s hh6
  rw [xst_eq] at hh7
  have ha := (blt_iff _ _).mp ha
  have hb := (blt_iff _ _).mp hb
  have h0 := (blt_iff _ _).mp h0
  exact ⟨_, _, hh7, fun p e R s m args below meth cd H locs lsA cells slots Q X N w => lv_ldiv (x := lN a) (y := lN b) X.1 X.2.1 hd (xl_ne hb h0) (by rw [pk_lDiv (by omega) h0 (by omega)]; exact w lsA N.2.2.2.2)⟩
theorem s_lrem (hd : decode (xc mi) pc = .ok (.lrem, 1)) (hk : xSK l Dg cl tys cA fl ft base adS GW xy xc xn xr Ex code K dl fs fin mi (pc + 1) k) : xSK l Dg cl tys cA fl ft base adS GW xy xc xn xr Ex code K dl fs fin mi pc (h_ldivr Nat.mod k) := by
  refine hk.pure fun h c ls st hh => ?_
  obtain ⟨v, t, rfl, hh1⟩ := xpop_s hh
  obtain ⟨u, t, rfl, hh2⟩ := xpop_s hh1
  obtain ⟨b, rfl, hh3⟩ := xlng_s hh2
  obtain ⟨a, rfl, hh4⟩ := xlng_s hh3
  obtain ⟨ha, hh5⟩ := xck_s hh4
  obtain ⟨hb, hh6⟩ := xck_s hh5
  obtain ⟨h0, hh7⟩ := xck_s hh6
  rw [xst_eq] at hh7
  have ha := (blt_iff _ _).mp ha
  have hb := (blt_iff _ _).mp hb
  have h0 := (blt_iff _ _).mp h0
  exact ⟨_, _, hh7, fun p e R s m args below meth cd H locs lsA cells slots Q X N w => lv_lrem (x := lN a) (y := lN b) X.1 X.2.1 hd (xl_ne hb h0) (by rw [pk_lRem (by omega) h0 (by omega)]; exact w lsA N.2.2.2.2)⟩
theorem xl_abs {a : Nat} (ha : a < 9223372036854775808) : (if 0 < lN a then lN a else -lN a) = lN a := by
  by_cases h : a = 0
  · subst h
    rfl
  · rw [if_pos]
    have h1 : lN 0 < lN a := by
      rw [xl_lt]
      show (0 + 9223372036854775808) % 18446744073709551616 < (a + 9223372036854775808) % 18446744073709551616
      omega
    exact h1
theorem s_labs {index : Nat} (hw : Cond.methodLink (xy mi).cls index Lib.MathLoose.abs_long.x ∈ GW ∧ Cond.static Lib.MathLoose.abs_long.x ∈ GW ∧ Cond.initialized "java/lang/Math" ∈ GW ∧ Cond.code Lib.MathLoose.abs_long.x Lib.MathLoose.abs_long.code 2 (some .long) ∈ GW) (hd : decode (xc mi) pc = .ok (.invokestatic index, 3)) (hk : xSK l Dg cl tys cA fl ft base adS GW xy xc xn xr Ex code K dl fs fin mi (pc + 3) k) : xSK l Dg cl tys cA fl ft base adS GW xy xc xn xr Ex code K dl fs fin mi pc (h_labs k) := by
  intro h c ls st hh
  obtain ⟨v, t, rfl, hh1⟩ := xpop_s hh
  obtain ⟨a, rfl, hh2⟩ := xlng_s hh1
  obtain ⟨ha, hh3⟩ := xck_s hh2
  obtain ⟨hsm, hh5⟩ := xsmall_s (ad := xad base adS) hh3
  have ha := (blt_iff _ _).mp ha
  obtain ⟨r, h', c', l1, l2, l3, l4, w⟩ := hk h c ls _ hh5
  refine ⟨r, h', c', l1, l2, l3, l4, ?_⟩
  intro p e R s m args below meth cd H locs lsA cells slots mc ms X N g1 g2 g3 g4
  obtain ⟨x1, x2, x3, x4, x5, x6, x7, x8, x9, x10, x11, x12, x13⟩ := id X
  have hw2 := w p e R s m args below meth cd H locs lsA cells slots mc ms X N g1 g2 g3 g4
  refine va_mabs_long (x := lN a) x1 x2 (by rw [x4]; exact N.2.2.2.2.2.1.symm) x6 (x8 _ hw.1) (x8 _ hw.2.1) (x8 _ hw.2.2.1) (x8 _ hw.2.2.2) (by omega) (Nat.le_trans (Nat.add_le_add_right hsm 13) (by omega)) (by omega) (by omega) hd ?_
  rw [xl_abs ha]
  exact hw2
theorem s_lret (hEk : ∀ (U : State) (H H1 : Heap), Ex U H → (∀ a, a < H.size → ¬ base ≤ a → H1[a]? = H[a]?) → Ex U H1) (hEm : ∀ (u U : State) (H : Heap), u.WarmedH U.vm → Ex u H → Ex U H) (hr : xr mi = some .long) (hd : decode (xc mi) pc = .ok (.lreturn, 1)) : xSK l Dg cl tys cA fl ft base adS GW xy xc xn xr Ex code (n + 1) dl fs fin mi pc (h_lret dl fs (xrun code n)) := by
  intro h c ls st hh
  obtain ⟨v, t, rfl, hh1⟩ := xpop_s hh
  obtain ⟨a, rfl, hh2⟩ := xlng_s hh1
  obtain ⟨rfl, hh3⟩ := xnil_s hh2
  refine ⟨some (.inr (.inl a)), h, c, Nat.le_refl _, Nat.le_refl _, fun q => q, xretv_then hh3, ?_⟩
  intro p e R s m args below meth cd H locs lsA cells slots mc ms X N g1 g2 g3 g4
  rw [Nat.sub_self, Nat.add_zero] at g1 g2
  subst g1
  subst g2
  exact W.lret (v := lN a) X.1 X.2.1 (X.2.2.1.trans hr) (fun t ht hW => xQ.of (r := some (.inr (.inl a))) (o := some (.long (lN a))) rfl hEk hEm X N t ht hW) N.2.2.2.1.2.2 hd X.2.2.2.2.1
theorem s_callvL {b0 b1 nA nL kc ci m2 index N0 P : Nat} {C : String} {T : u_T} {pads : List xO} (hI : xIH l Dg cl tys cA fl ft base adS GW xy xc xn xr Ex code bm bp (n + 1)) (hEk : ∀ (U : State) (H H1 : Heap), Ex U H → (∀ a, a < H.size → ¬ base ≤ a → H1[a]? = H[a]?) → Ex U H1) (hEm : ∀ (u U : State) (H : Heap), u.WarmedH U.vm → Ex u H → Ex U H) (hEv : ∀ (u U : State) (H : Heap), U.vm = u.vm → Ex u H → Ex U H) (hG : ∀ w ∈ GW, (w.onTables && w.keeps) = true ∨ ∃ ty, w = .arrayClass ty)
    (e0 : bm b0 = m2 ∧ bp b0 = 0) (e1 : bm b1 = mi ∧ bp b1 = pc + 3) (hp : pads = List.replicate P none) (hn : xn m2 = nL ∧ xn m2 ≤ 45) (hS : xSite GW (xy mi).cls index (xy m2) (xc m2) (xn m2) (xr m2) nA) (hst : Cond.instanceMethod (xy m2) ∈ GW ∧ Cond.selects C (xy m2) (xy m2) ∈ GW) (hkc : kc = ci + 8) (hcl : cl[ci]? = some (C, T, N0))
    (hd : decode (xc mi) pc = .ok (.invokevirtual index, 3)) : xSK l Dg cl tys cA fl ft base adS GW xy xc xn xr Ex code (n + 1) dl fs fin mi pc (h_callvL b0 b1 nA nL kc pads dl fs (xrun code n)) := by
  subst hp
  subst hkc
  intro h c ls st hh
  obtain ⟨As, st1, v1, v2, hh1⟩ := xargl_s hh
  obtain ⟨v, st', q1, hh2⟩ := xpop_s hh1
  obtain ⟨o, q2, hh3⟩ := xobj_s hh2
  obtain ⟨q3, hh4⟩ := xck_s hh3
  obtain ⟨q4, hh5⟩ := xck_s hh4
  obtain ⟨hq, hh5⟩ := xck_s hh5
  obtain ⟨hsm, hh6⟩ := xsmall_s (ad := xad base adS) hh5
  have q3 := (blt_iff _ _).mp q3
  have q4 := Nat.eq_of_beq_eq_true q4
  have hq := Nat.eq_of_beq_eq_true hq
  rw [List.length_append, List.length_replicate, ← hn.1] at hq
  have hxs : xsl (v :: As) = some v :: xsl As := by
    rw [xsl_cons, q2]
    rfl
  cases dl with
  | zero => cases hh6
  | succ dl =>
    have hh7 : xrun code n (h, (c, (dl, ((b0, (xsl (v :: As) ++ List.replicate P none, [])), (b1, (ls, st')) :: fs)))) = some fin := by
      rw [hxs]
      exact hh6
    obtain ⟨r1, h1, c1, l1, l2, l3, ⟨k, hk, hrun⟩, w1⟩ := hI n (Nat.lt_succ_self n) b0 h c dl _ [] _ fin hh7
    rw [xpush_eq] at hrun
    obtain ⟨r, h2, c2, k1, k2, k3, k4, w2⟩ := hI k (by omega) b1 h1 c1 (dl + 1) ls (r1.toList ++ st') fs fin hrun
    rw [e0.1, e0.2] at w1
    rw [e1.1, e1.2] at w2
    refine ⟨r, h2, c2, Nat.le_trans l1 k1, Nat.le_trans l2 k2, fun q => k3 (l3 q), k4.mono (by omega), ?_⟩
    intro p e R s m args below meth cd H locs lsA cells slots mc ms X N g1 g2 g3 g4
    have hlen : (xsl (v :: As)).length = (xsl As).length + 1 := by rw [hxs]; rfl
    have hsub : (xsl As).length + P + 1 = xn m2 := hq
    rw [show P = xn m2 - (xsl (v :: As)).length by omega] at w1
    have hM := xMetL (mi := m2) (vs := v :: As) (c := c) (c' := c1) hS.2.2.2.2.2 (by omega) N.2.1 w1
    have hrec := va_recv (q0 := o) (a := xad base adS o) X.2.2.2.2.2.2.2.2.1 N.2.2.1 hcl (by rw [xws_get q3, xcell_obj q4])
    have hR := va_runV (As := As.map (xval (xad base adS))) (b := xad base adS o) (C := C) (rest := st'.map (xval (xad base adS))) (g := F0 m pc lsA (st.map (xval (xad base adS)))) (cc := xc mi) (nL := xn mi) (cells := cells) (slots := slots) (H := H) (locs := locs) (below := below) (meth := meth) (c := cd) (p := p) (e := e) (m := m)
      ⟨X.1, X.2.1, X.2.2.2.1, X.2.2.2.2.2.1, X.2.2.2.2.2.2.2.1⟩ hM ⟨xCallB hG X hS hn.2, X.2.2.2.2.2.2.2.1 _ hst.1, X.2.2.2.2.2.2.2.1 _ hst.2⟩ ⟨xWd_blind hEv, hrec, fun U hU hW => ⟨by rw [q2]; rfl, xWd_of hEk hEm X N U hU hW⟩⟩ rfl (by rw [List.length_map]; exact v1) N.2.2.2.2.2.1 (by rw [v2, q1, q2, List.map_append, List.map_reverse]; rfl) (lv_room hsm) hd ⟨by omega, by omega⟩
    refine x_after hR N (l3 N.2.1) fun H1 locs1 N1 => ?_
    have hw := w2 p e R s m args below meth cd H1 locs1 lsA (cells + (c1.1 - c.1)) (slots + (c1.2 - c.2)) mc ms X N1 (by omega) (by omega) g3 g4
    rw [xmap_app] at hw
    exact hw
end XLO2
section XLM2
variable {R : Type} {x : R}
theorem m_xlz : ∀ {i : Nat} {ls : List xO} {k k' : List xO → Option R}, (∀ ls, k ls = some x → k' ls = some x) → xlz i ls k = some x → xlz i ls k' = some x
  | 0, [], _, _, _ => id
  | 0, _ :: t, _, _, hk => hk (none :: t)
  | i + 1, [], _, _, _ => id
  | i + 1, a :: t, k, k', hk => m_xlz (i := i) (ls := t) (k := fun t' => k (a :: t')) (k' := fun t' => k' (a :: t')) (fun t' => hk (a :: t'))
variable {d : Nat} {fin : xE d} {k k' : xK d} {i1 i2 : xS d → xR d}
theorem m_lstore {i : Nat} (hk : xKm fin k k') : xKm fin (h_lstore i k) (h_lstore i k') := fun h c ls st => m_xpop (st := st) fun v st => m_xlng (v := v) fun _ => m_xlp (ls := ls) (v := v) fun ls => m_xlz (ls := ls) fun ls => hk h c ls st
theorem m_ldivr {f : Nat → Nat → Nat} (hk : xKm fin k k') : xKm fin (h_ldivr f k) (h_ldivr f k') := fun h c ls st => m_xpop (st := st) fun v st => m_xpop (st := st) fun u st => m_xlng (v := v) fun _ => m_xlng (v := u) fun _ => m_xck (m_xck (m_xck (m_xst fun m => hk h c ls (Sum.inr (Sum.inl m) :: st))))
theorem m_labs (hk : xKm fin k k') : xKm fin (h_labs k) (h_labs k') := fun h c ls st => m_xpop (st := st) fun v st => m_xlng (v := v) fun a => m_xck (m_xsmall (st := st) (hk h c ls (Sum.inr (Sum.inl a) :: st)))
theorem m_lret {dl : Nat} {fs : List xF} (hi : xIm fin i1 i2) : xKm fin (h_lret dl fs i1) (h_lret dl fs i2) := fun h c _ st => m_xpop (st := st) fun v st => m_xlng (v := v) fun _ => m_xnil (st := st) (m_xretv hi)
theorem m_callvL {b0 b1 nA nL kc : Nat} {pads : List xO} {dl : Nat} {fs : List xF} (hi : xIm fin i1 i2) : xKm fin (h_callvL b0 b1 nA nL kc pads dl fs i1) (h_callvL b0 b1 nA nL kc pads dl fs i2) := fun h c ls st => m_xargl (st := st) fun acc st => m_xpop (st := st) fun v st => m_xobj (v := v) fun _ => m_xck (m_xck (m_xck (m_xsmall (st := st) (m_xdown fun m => hi _))))
end XLM2

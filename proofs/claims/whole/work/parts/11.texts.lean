/-! Texts: text j is place 1000 + j, its bytes place 1100 + j; a table of lengths and bytes (eight bits each). -/
noncomputable def xtx {R : Type} (lo nS : Nat) (r : Nat) (k : Nat → Option R) : Option R := xck (Nat.ble lo r) (xck (Nat.blt r (Nat.add lo nS)) (k (Nat.sub r lo)))
theorem xtx_s {R : Type} {lo nS r : Nat} {k : Nat → Option R} {x : R} (h : xtx lo nS r k = some x) : ∃ j, j < nS ∧ r = lo + j ∧ k j = some x := by
  obtain ⟨h1, h2⟩ := xck_s h
  obtain ⟨h3, h4⟩ := xck_s h2
  rw [Nat.ble_eq] at h1
  have h3 := (blt_iff _ _).mp h3
  have h3 : r < lo + nS := h3
  exact ⟨r - lo, by omega, by omega, h4⟩
noncomputable def h_text {d : Nat} (j : Nat) (k : xK d) : xK d := fun h c ls st => k h c ls (Sum.inr (Sum.inr j) :: st)
noncomputable def h_tval {d : Nat} (nS : Nat) (k : xK d) : xK d := fun h c ls st => xpop st (fun v st => xobj v (fun r => xtx 1000 nS r (fun j => xst (Nat.add j 1101) (fun m => k h c ls (Sum.inr (Sum.inr m) :: st)))))
noncomputable def h_tcod {d : Nat} (nS : Nat) (k : xK d) : xK d := fun h c ls st => xpop st (fun v st => xobj v (fun r => xtx 1000 nS r (fun _ => k h c ls (Sum.inl 0 :: st))))
noncomputable def h_tlen {d : Nat} (nS : Nat) (TT : xBT (Nat × Nat) 5) (k : xK d) : xK d := fun h c ls st => xpop st (fun v st => xobj v (fun r => xtx 1100 nS r (fun j => xst (Prod.fst (xget 5 TT j)) (fun m => k h c ls (Sum.inl m :: st)))))
noncomputable def h_tald {d : Nat} (nS : Nat) (TT : xBT (Nat × Nat) 5) (k : xK d) : xK d := fun h c ls st => xpop st (fun v st => xpop st (fun u st => xint v (fun i => xobj u (fun r => xtx 1100 nS r (fun j => xck (Nat.blt i (Prod.fst (xget 5 TT j))) (xck (Nat.blt i 2147483648) (xst (xdg 8 256 (Prod.snd (xget 5 TT j)) i) (fun m => k h c ls (Sum.inl m :: st)))))))))
/-- a call of a text's own method: the receiver is a text -/
noncomputable def h_callt {d : Nat} (b0 b1 nA nS : Nat) (pads : List xO) (dl : Nat) (fs : List xF) (ih : xS d → xR d) : xK d := fun h c ls st => xargs nA st pads (fun acc st => xpop st (fun v st => xobj v (fun r => xtx 1000 nS r (fun _ => xsmall 8 st (xdown dl (fun m => ih (h, (c, (m, ((b0, (some v :: acc, [])), (b1, (ls, st)) :: fs))))))))))
/-- Object's own constructor -/
noncomputable def h_obj {d : Nat} (k : xK d) : xK d := fun h c ls st => xpop st (fun v st => xobj v (fun _ => xsmall 8 st (k h c ls st)))
/-- what is given of the texts -/
def xTxt (base : Nat) (adS : Nat → Nat) (TT : xBT (Nat × Nat) 5) (nS : Nat) (s : State) : Prop := ∀ j, j < nS → va_O "java/lang/String" (adS j) (fun q => base ≤ q) s s.heap ∧ va_OF "java/lang/String" "coder" "B" (.int 0) (adS j) (fun q => base ≤ q) s s.heap ∧ va_OF "java/lang/String" "value" "[B" (.ref (adS (100 + j))) (adS j) (fun q => base ≤ q) s s.heap ∧ va_T .byte (adS (100 + j)) (Prod.fst (xget 5 TT j)) (fun i => .int (nI (xdg 8 256 (Prod.snd (xget 5 TT j)) i))) (fun q => base ≤ q) s s.heap
theorem xad_ex {base : Nat} {adS : Nat → Nat} (j : Nat) : xad base adS (1000 + j) = adS j := by
  unfold xad
  rw [if_neg (by omega), Nat.add_sub_cancel_left]
section XTX
variable {l : Launch} {Dg : va_G} {cl : List vw_C} {tys : List (ClassId × FieldType)} {cA fl : Nat → Nat} {ft : Nat → Nat → Nat} {base : Nat} {adS : Nat → Nat} {GW : List Cond}
variable {xy : Nat → MethodName} {xc : Nat → ByteArray} {xn : Nat → Nat} {xr : Nat → Option FieldType} {Ex : State → Heap → Prop} {d e : Nat} {code : xBT (xB d) e} {bm bp : Nat → Nat}
variable {K n dl mi pc nS : Nat} {fs : List xF} {fin : xE d} {j k : xK d} {TT : xBT (Nat × Nat) 5}
theorem s_ldcS {jt index : Nat} {tx : String} (hR : ∀ s : State, Ex s s.heap → vk_R (xy mi).cls index tx (adS jt) s) (hd : decode (xc mi) pc = .ok (.ldc index, 2)) (hk : xSK l Dg cl tys cA fl ft base adS GW xy xc xn xr Ex code K dl fs fin mi (pc + 2) k) : xSK l Dg cl tys cA fl ft base adS GW xy xc xn xr Ex code K dl fs fin mi pc (h_text (1001 + jt) k) := by
  refine hk.pure fun h c ls st hh => ?_
  refine ⟨_, _, hh, fun p e R s m args below meth cd H locs lsA cells slots Q X N w => va_ldcS (q := adS jt) X.1 X.2.1 X.2.2.2.2.2.1 (hR s X.2.2.2.2.2.2.2.2.2.1) hd ?_⟩
  have h1 := w lsA N.2.2.2.2
  rw [List.map_cons, show xval (xad base adS) (.inr (.inr (1001 + jt))) = .ref (adS jt) by rw [show 1001 + jt = (1000 + jt) + 1 by omega]; exact congrArg Value.ref (xad_ex jt)] at h1
  exact h1
theorem s_ldcSW {jt index : Nat} {tx : String} (hR : ∀ s : State, Ex s s.heap → vk_R (xy mi).cls index tx (adS jt) s) (hd : decode (xc mi) pc = .ok (.ldc_w index, 3)) (hk : xSK l Dg cl tys cA fl ft base adS GW xy xc xn xr Ex code K dl fs fin mi (pc + 3) k) : xSK l Dg cl tys cA fl ft base adS GW xy xc xn xr Ex code K dl fs fin mi pc (h_text (1001 + jt) k) := by
  refine hk.pure fun h c ls st hh => ?_
  refine ⟨_, _, hh, fun p e R s m args below meth cd H locs lsA cells slots Q X N w => ?_⟩
  have h1 := w lsA N.2.2.2.2
  rw [List.map_cons, show xval (xad base adS) (.inr (.inr (1001 + jt))) = .ref (adS jt) by rw [show 1001 + jt = (1000 + jt) + 1 by omega]; exact congrArg Value.ref (xad_ex jt)] at h1
  have hZ := hR s X.2.2.2.2.2.2.2.2.2.1
  intro T hT X0
  obtain ⟨t, a1, b1⟩ := h1 T hT X0
  have g1 : (Cond.stringRef (xy mi).cls index tx).before args s = true := hZ.1
  have g2 : (Term.string (xy mi).cls index).eval args s none [] s = some (.ref (adS jt)) := hZ.2
  exact ⟨t, X0.ldcStringW X.1 X.2.2.2.2.2.1 (text := tx) (a := adS jt) g1 g2 (g := F0 m pc lsA _) rfl (by rw [X.2.1]; exact hd) t a1, b1⟩
theorem s_tval {index : Nat} (hTx : ∀ s : State, Ex s s.heap → xTxt base adS TT nS s) (hw : Cond.fieldLink (xy mi).cls index "java/lang/String" "value" "[B" ∈ GW) (hd : decode (xc mi) pc = .ok (.getfield index, 3)) (hk : xSK l Dg cl tys cA fl ft base adS GW xy xc xn xr Ex code K dl fs fin mi (pc + 3) k) : xSK l Dg cl tys cA fl ft base adS GW xy xc xn xr Ex code K dl fs fin mi pc (h_tval nS k) := by
  refine hk.pure fun h c ls st hh => ?_
  obtain ⟨v, t, rfl, hh1⟩ := xpop_s hh
  obtain ⟨r, rfl, hh2⟩ := xobj_s hh1
  obtain ⟨jt, q1, rfl, hh3⟩ := xtx_s hh2
  rw [xst_eq] at hh3
  refine ⟨_, _, hh3, fun p e R s m args below meth cd H locs lsA cells slots Q X N w => ?_⟩
  have h1 := w lsA N.2.2.2.2
  rw [List.map_cons, show xval (xad base adS) (.inr (.inr (Nat.add jt 1101))) = .ref (adS (100 + jt)) by rw [show Nat.add jt 1101 = (1000 + (100 + jt)) + 1 by show jt + 1101 = _; omega]; exact congrArg Value.ref (xad_ex (100 + jt))] at h1
  rw [List.map_cons, show xval (xad base adS) (.inr (.inr (1000 + jt + 1))) = .ref (adS jt) from congrArg Value.ref (xad_ex jt)]
  exact vk_getf X.1 X.2.1 (hTx s X.2.2.2.2.2.2.2.2.2.1 jt q1).2.2.1 N.2.2.2.1 X.2.2.2.2.2.1 (X.2.2.2.2.2.2.2.1 _ hw) (fun x hx => hx) hd h1
theorem s_tcod {index : Nat} (hTx : ∀ s : State, Ex s s.heap → xTxt base adS TT nS s) (hw : Cond.fieldLink (xy mi).cls index "java/lang/String" "coder" "B" ∈ GW) (hd : decode (xc mi) pc = .ok (.getfield index, 3)) (hk : xSK l Dg cl tys cA fl ft base adS GW xy xc xn xr Ex code K dl fs fin mi (pc + 3) k) : xSK l Dg cl tys cA fl ft base adS GW xy xc xn xr Ex code K dl fs fin mi pc (h_tcod nS k) := by
  refine hk.pure fun h c ls st hh => ?_
  obtain ⟨v, t, rfl, hh1⟩ := xpop_s hh
  obtain ⟨r, rfl, hh2⟩ := xobj_s hh1
  obtain ⟨jt, q1, rfl, hh3⟩ := xtx_s hh2
  refine ⟨_, _, hh3, fun p e R s m args below meth cd H locs lsA cells slots Q X N w => ?_⟩
  rw [List.map_cons, show xval (xad base adS) (.inr (.inr (1000 + jt + 1))) = .ref (adS jt) from congrArg Value.ref (xad_ex jt)]
  have h1 := w lsA N.2.2.2.2
  rw [List.map_cons, show xval (xad base adS) (.inl 0) = .int 0 from congrArg Value.int nI_0] at h1
  exact vk_getf X.1 X.2.1 (hTx s X.2.2.2.2.2.2.2.2.2.1 jt q1).2.1 N.2.2.2.1 X.2.2.2.2.2.1 (X.2.2.2.2.2.2.2.1 _ hw) (fun x hx => hx) hd h1
theorem s_tlen (hTx : ∀ s : State, Ex s s.heap → xTxt base adS TT nS s) (hd : decode (xc mi) pc = .ok (.arraylength, 1)) (hk : xSK l Dg cl tys cA fl ft base adS GW xy xc xn xr Ex code K dl fs fin mi (pc + 1) k) : xSK l Dg cl tys cA fl ft base adS GW xy xc xn xr Ex code K dl fs fin mi pc (h_tlen nS TT k) := by
  refine hk.pure fun h c ls st hh => ?_
  obtain ⟨v, t, rfl, hh1⟩ := xpop_s hh
  obtain ⟨r, rfl, hh2⟩ := xobj_s hh1
  obtain ⟨jt, q1, rfl, hh3⟩ := xtx_s hh2
  rw [xst_eq] at hh3
  refine ⟨_, _, hh3, fun p e R s m args below meth cd H locs lsA cells slots Q X N w => ?_⟩
  rw [List.map_cons, show xval (xad base adS) (.inr (.inr (1100 + jt + 1))) = .ref (adS (100 + jt)) by rw [show 1100 + jt + 1 = (1000 + (100 + jt)) + 1 by omega]; exact congrArg Value.ref (xad_ex (100 + jt))]
  exact va_tlen X.1 X.2.1 (hTx s X.2.2.2.2.2.2.2.2.2.1 jt q1).2.2.2 N.2.2.2.1 rfl hd (w lsA N.2.2.2.2)
theorem s_tald (hTx : ∀ s : State, Ex s s.heap → xTxt base adS TT nS s) (hd : decode (xc mi) pc = .ok (.baload, 1)) (hk : xSK l Dg cl tys cA fl ft base adS GW xy xc xn xr Ex code K dl fs fin mi (pc + 1) k) : xSK l Dg cl tys cA fl ft base adS GW xy xc xn xr Ex code K dl fs fin mi pc (h_tald nS TT k) := by
  refine hk.pure fun h c ls st hh => ?_
  obtain ⟨v, t, rfl, hh1⟩ := xpop_s hh
  obtain ⟨u, t, rfl, hh2⟩ := xpop_s hh1
  obtain ⟨i, rfl, hh3⟩ := xint_s hh2
  obtain ⟨r, rfl, hh4⟩ := xobj_s hh3
  obtain ⟨jt, q1, rfl, hh5⟩ := xtx_s hh4
  obtain ⟨q2, hh6⟩ := xck_s hh5
  obtain ⟨q3, hh7⟩ := xck_s hh6
  rw [xst_eq] at hh7
  have q2 := (blt_iff _ _).mp q2
  have q3 := (blt_iff _ _).mp q3
  refine ⟨_, _, hh7, fun p e R s m args below meth cd H locs lsA cells slots Q X N w => ?_⟩
  rw [List.map_cons, List.map_cons, show xval (xad base adS) (.inr (.inr (1100 + jt + 1))) = .ref (adS (100 + jt)) by rw [show 1100 + jt + 1 = (1000 + (100 + jt)) + 1 by omega]; exact congrArg Value.ref (xad_ex (100 + jt))]
  exact va_tb (i := nI i) X.1 X.2.1 (hTx s X.2.2.2.2.2.2.2.2.2.1 jt q1).2.2.2 N.2.2.2.1 (xn_in q3 q2) (by rw [xn_clamp q3]; rfl) hd (w lsA N.2.2.2.2)
theorem s_gets {n0 index : Nat} {C nm : String} {z : Int32} (hz : z = nI n0) (hZ : ∀ s : State, Ex s s.heap → va_Z C nm "Z" (.int z) (fun q => base ≤ q) s s.heap) (hw : Cond.fieldLink (xy mi).cls index C nm "Z" ∈ GW) (hd : decode (xc mi) pc = .ok (.getstatic index, 3)) (hk : xSK l Dg cl tys cA fl ft base adS GW xy xc xn xr Ex code K dl fs fin mi (pc + 3) k) : xSK l Dg cl tys cA fl ft base adS GW xy xc xn xr Ex code K dl fs fin mi pc (h_iconst n0 k) := by
  subst hz
  refine hk.pure fun h c ls st hh => ?_
  exact ⟨_, _, hh, fun p e R s m args below meth cd H locs lsA cells slots Q X N w => va_gets X.1 X.2.1 (hZ s X.2.2.2.2.2.2.2.2.2.1) N.2.2.2.1 X.2.2.2.2.2.1 (X.2.2.2.2.2.2.2.1 _ hw) (fun x hx => hx) hd (w lsA N.2.2.2.2)⟩
theorem s_obj {index : Nat} (hw : Cond.methodLink (xy mi).cls index Lib.objectInit ∈ GW ∧ Cond.instanceMethod Lib.objectInit ∈ GW ∧ Cond.code Lib.objectInit ⟨#[0xb1]⟩ 1 none ∈ GW) (hd : decode (xc mi) pc = .ok (.invokespecial index, 3)) (hk : xSK l Dg cl tys cA fl ft base adS GW xy xc xn xr Ex code K dl fs fin mi (pc + 3) k) : xSK l Dg cl tys cA fl ft base adS GW xy xc xn xr Ex code K dl fs fin mi pc (h_obj k) := by
  refine hk.pure fun h c ls st hh => ?_
  obtain ⟨v, t, rfl, hh1⟩ := xpop_s hh
  obtain ⟨r, rfl, hh2⟩ := xobj_s hh1
  obtain ⟨hsm, hh3⟩ := xsmall_s (ad := xad base adS) hh2
  refine ⟨_, _, hh3, fun p e R s m args below meth cd H locs lsA cells slots Q X N w => ?_⟩
  exact W.objInit (g := F0 m pc lsA _) X.1 X.2.1 X.2.2.2.2.2.1 (X.2.2.2.2.2.2.2.1 _ hw.1) (X.2.2.2.2.2.2.2.1 _ hw.2.1) (X.2.2.2.2.2.2.2.1 _ hw.2.2) rfl (by rw [X.2.2.2.1]; exact N.2.2.2.2.2.1) rfl hd (by have := X.2.2.2.2.2.2.2.2.2.2.2.1; omega) (by have h7 := X.2.2.2.2.2.2.2.2.2.2.2.2; have h8 := hsm; show 2 * 0 + _ + 12 ≤ _; omega) (w lsA N.2.2.2.2)
end XTX

/-! Objects and rows. -/
noncomputable def xcls {R : Type} (kc : Nat) (c : xC) (k : Nat → Option R) : Option R := Prod.rec (motive := fun _ => Option R) (fun kd u => Prod.rec (motive := fun _ => Option R) (fun _ A => xck (Nat.beq kd kc) (k A)) u) c
theorem xcls_s {R : Type} {kc : Nat} {c : xC} {k : Nat → Option R} {x : R} (h : xcls kc c k = some x) : c.1 = kc ∧ k c.2.2 = some x := by
  obtain ⟨kd, m, A⟩ := c
  obtain ⟨h1, h2⟩ := xck_s (b := Nat.beq kd kc) (k := k A) h
  exact ⟨Nat.eq_of_beq_eq_true h1, h2⟩
/-- a row of the kind: its length, its digits -/
noncomputable def xrow {R : Type} (kc : Nat) (c : xC) (k : Nat → Nat → Option R) : Option R := Prod.rec (motive := fun _ => Option R) (fun kd u => Prod.rec (motive := fun _ => Option R) (fun m A => xck (Nat.beq kd kc) (k m A)) u) c
theorem xrow_s {R : Type} {kc : Nat} {c : xC} {k : Nat → Nat → Option R} {x : R} (h : xrow kc c k = some x) : ∃ m A, c = (kc, (m, A)) ∧ k m A = some x := by
  obtain ⟨kd, m, A⟩ := c
  obtain ⟨h1, h2⟩ := xck_s (b := Nat.beq kd kc) (k := k m A) h
  exact ⟨m, A, by rw [Nat.eq_of_beq_eq_true h1], h2⟩
noncomputable def h_geti {d : Nat} (kc j : Nat) (k : xK d) : xK d := fun h c ls st => xpop st (fun v st => xobj v (fun q => xck (Nat.blt q (Prod.fst c)) (xcls kc (xget d h q) (fun A => xst (xd8 A j) (fun m => k h c ls (Sum.inl m :: st))))))
noncomputable def h_getr {d : Nat} (kc j : Nat) (k : xK d) : xK d := fun h c ls st => xpop st (fun v st => xobj v (fun q => xck (Nat.blt q (Prod.fst c)) (xcls kc (xget d h q) (fun A => xst (xd8 A j) (fun m => k h c ls (Sum.inr (Sum.inr m) :: st))))))
noncomputable def h_puti {d : Nat} (kc j : Nat) (k : xK d) : xK d := fun h c ls st => xpop st (fun v st => xpop st (fun u st => xint v (fun a => xobj u (fun q => xck (Nat.blt q (Prod.fst c)) (xcls kc (xget d h q) (fun A => xck (xok8 A) (xst (xs8 A j (Nat.mod a 4294967296)) (fun B => xsetK d h q (kc, (0, B)) (fun h => k h c ls st)))))))))
noncomputable def h_putz {d : Nat} (kc j : Nat) (k : xK d) : xK d := fun h c ls st => xpop st (fun v st => xpop st (fun u st => xint v (fun a => xck (Nat.blt a 2) (xobj u (fun q => xck (Nat.blt q (Prod.fst c)) (xcls kc (xget d h q) (fun A => xck (xok8 A) (xst (xs8 A j a) (fun B => xsetK d h q (kc, (0, B)) (fun h => k h c ls st))))))))))
noncomputable def h_putr {d : Nat} (kc j : Nat) (k : xK d) : xK d := fun h c ls st => xpop st (fun v st => xpop st (fun u st => xref v (fun a => xck (Nat.blt a 18446744073709551616) (xobj u (fun q => xck (Nat.blt q (Prod.fst c)) (xcls kc (xget d h q) (fun A => xck (xok8 A) (xst (xs8 A j a) (fun B => xsetK d h q (kc, (0, B)) (fun h => k h c ls st))))))))))
noncomputable def h_ald {d : Nat} (kc : Nat) (k : xK d) : xK d := fun h c ls st => xpop st (fun v st => xpop st (fun u st => xint v (fun i => xobj u (fun q => xck (Nat.blt q (Prod.fst c)) (xrow kc (xget d h q) (fun m A => xck (Nat.blt i m) (xck (Nat.blt i 2147483648) (xst (xd4 A i) (fun x => k h c ls (Sum.inl x :: st))))))))))
noncomputable def h_ast {d : Nat} (kc : Nat) (f : Nat → Nat) (k : xK d) : xK d := fun h c ls st => xpop st (fun w st => xpop st (fun v st => xpop st (fun u st => xint w (fun a => xint v (fun i => xobj u (fun q => xck (Nat.blt q (Prod.fst c)) (xrow kc (xget d h q) (fun m A => xck (Nat.blt i m) (xck (Nat.blt i 2147483648) (xck (xok4 A) (xst (xs4 A i (f a)) (fun B => xsetK d h q (kc, (m, B)) (fun h => k h c ls st)))))))))))))
noncomputable def h_alen {d : Nat} (k : xK d) : xK d := fun h c ls st => xpop st (fun u st => xobj u (fun q => xck (Nat.blt q (Prod.fst c)) (Prod.rec (motive := fun _ => xR d) (fun kd u => Prod.rec (motive := fun _ => xR d) (fun m _ => xck (Nat.blt kd 4) (k h c ls (Sum.inl m :: st))) u) (xget d h q))))
noncomputable def h_newa {d : Nat} (lim kc : Nat) (k : xK d) : xK d := fun h c ls st => xpop st (fun v st => xint v (fun m => xck (Nat.blt m 50000000) (Prod.rec (motive := fun _ => xR d) (fun c1 c2 => xck (Nat.blt (Nat.succ c1) lim) (xck (Nat.beq (Prod.fst (Prod.snd (xget d h (Nat.pred lim)))) 0) (xst (Nat.mul c1 1048576) (fun z => xsetK d h c1 (kc, (m, z)) (fun h => xst (Nat.add c2 m) (fun c3 => xst (Nat.add c1 1) (fun c4 => k h (c4, c3) ls (Sum.inr (Sum.inr c4) :: st)))))))) c)))
noncomputable def h_new {d : Nat} (lim kc N : Nat) (k : xK d) : xK d := fun h c ls st => Prod.rec (motive := fun _ => xR d) (fun c1 c2 => xck (Nat.blt (Nat.succ c1) lim) (xck (Nat.beq (Prod.fst (Prod.snd (xget d h (Nat.pred lim)))) 0) (xst (Nat.mul c1 1048576) (fun z => xsetK d h c1 (kc, (0, z)) (fun h => xst (Nat.add c2 N) (fun c3 => xst (Nat.add c1 1) (fun c4 => k h (c4, c3) ls (Sum.inr (Sum.inr c4) :: st)))))))) c
noncomputable def f_id (a : Nat) : Nat := Nat.mod a 4294967296
noncomputable def f_one (a : Nat) : Nat := Nat.land a 1
/-- a field set -/
theorem xfs_set {ad fl : Nat → Nat} {ft : Nat → Nat → Nat} {ci j A v : Nat} (hv : v < 18446744073709551616) (hA : xok8 A = true) : ((List.range (fl ci)).map (fun i => xfv ad (ft ci i) (xd8 A i))).set j (xfv ad (ft ci j) v) = (List.range (fl ci)).map (fun i => xfv ad (ft ci i) (xd8 (xs8 A j v) i)) := by
  apply List.ext_getElem?
  intro i
  by_cases hi : i < fl ci
  · rw [List.getElem?_map, List.getElem?_range hi]
    by_cases h : i = j
    · subst h
      rw [List.getElem?_set_self (by simp [hi])]
      show some (xfv ad (ft ci i) v) = some (xfv ad (ft ci i) (xd8 (xs8 A i v) i))
      rw [xd8_s A i v i hv hA, if_pos rfl]
    · rw [List.getElem?_set_ne (Ne.symm h), List.getElem?_map, List.getElem?_range hi]
      show some (xfv ad (ft ci i) (xd8 A i)) = some (xfv ad (ft ci i) (xd8 (xs8 A j v) i))
      rw [xd8_s A j v i hv hA, if_neg h]
  · rw [List.getElem?_eq_none (by simp; omega), List.getElem?_eq_none (by simp; omega)]
/-- what a class is: its name, its fields, their tags -/
def xCl (cl : List vw_C) (fl : Nat → Nat) (GW : List Cond) (ci : Nat) (C : String) (T : u_T) (N : Nat) (ty : Nat → FieldType) : Prop :=
  cl[ci]? = some (C, T, N) ∧ fl ci = N ∧ (∀ w ∈ u_ws C T N, w ∈ GW) ∧ (∀ k, k < N → parseFieldDescriptor (T k).2.2.1 = some (ty k)) ∧ (∀ a, a < N → ∀ b, b < N → a ≠ b → (T a).2.1 ≠ (T b).2.1)
section XOBJ
variable {l : Launch} {Dg : va_G} {cl : List vw_C} {tys : List (ClassId × FieldType)} {cA fl : Nat → Nat} {ft : Nat → Nat → Nat} {base : Nat} {adS : Nat → Nat} {GW : List Cond}
variable {xy : Nat → MethodName} {xc : Nat → ByteArray} {xn : Nat → Nat} {xr : Nat → Option FieldType} {Ex : State → Heap → Prop} {d e : Nat} {code : xBT (xB d) e} {bm bp : Nat → Nat}
variable {K n dl mi pc : Nat} {fs : List xF} {fin : xE d} {j k : xK d}
theorem s_geti {kc ci i N index : Nat} {C : String} {T : u_T} {ty : Nat → FieldType} (hkc : kc = ci + 8) (hC : xCl cl fl GW ci C T N ty) (hi : i < N) (hf : ft ci i = 0) (hw : Cond.fieldLink (xy mi).cls index C (T i).2.1 (T i).2.2.1 ∈ GW) (ho : (T i).1 = C) (hd : decode (xc mi) pc = .ok (.getfield index, 3)) (hk : xSK l Dg cl tys cA fl ft base adS GW xy xc xn xr Ex code K dl fs fin mi (pc + 3) k) : xSK l Dg cl tys cA fl ft base adS GW xy xc xn xr Ex code K dl fs fin mi pc (h_geti kc i k) := by
  subst hkc
  obtain ⟨c1, c2, c3, c4, c5⟩ := hC
  refine hk.pure fun h c ls st hh => ?_
  obtain ⟨v, t, rfl, hh1⟩ := xpop_s hh
  obtain ⟨q, rfl, hh2⟩ := xobj_s hh1
  obtain ⟨q1, hh3⟩ := xck_s hh2
  obtain ⟨q2, hh4⟩ := xcls_s hh3
  rw [xst_eq] at hh4
  have q1 := (blt_iff _ _).mp q1
  refine ⟨_, _, hh4, fun p e R s m args below meth cd H locs lsA cells slots Q X N1 w => ?_⟩
  exact va_get (ref := C) (own := (xy mi).cls) (a := xad base adS q) (v := .int (nI (xd8 (xget d h q).2.2 i))) X.1 X.2.1 X.2.2.2.2.2.2.2.1 c3 X.2.2.2.2.2.1 X.2.2.2.2.2.2.2.2.1 N1.2.2.1 q (by rw [xws_get q1, xcell_obj q2]) c1 i hi (X.2.2.2.2.2.2.2.1 _ hw) (fun x hx => by rw [ho] at hx; exact hx) (by rw [List.getElem?_map, List.getElem?_range (by rw [c2]; exact hi)]; show some (xfv _ (ft ci i) _) = _; rw [hf]; rfl) hd (w lsA N1.2.2.2.2)
theorem s_getr {kc ci i N index : Nat} {C : String} {T : u_T} {ty : Nat → FieldType} (hkc : kc = ci + 8) (hC : xCl cl fl GW ci C T N ty) (hi : i < N) (hf : ft ci i = 2) (hw : Cond.fieldLink (xy mi).cls index C (T i).2.1 (T i).2.2.1 ∈ GW) (ho : (T i).1 = C) (hd : decode (xc mi) pc = .ok (.getfield index, 3)) (hk : xSK l Dg cl tys cA fl ft base adS GW xy xc xn xr Ex code K dl fs fin mi (pc + 3) k) : xSK l Dg cl tys cA fl ft base adS GW xy xc xn xr Ex code K dl fs fin mi pc (h_getr kc i k) := by
  subst hkc
  obtain ⟨c1, c2, c3, c4, c5⟩ := hC
  refine hk.pure fun h c ls st hh => ?_
  obtain ⟨v, t, rfl, hh1⟩ := xpop_s hh
  obtain ⟨q, rfl, hh2⟩ := xobj_s hh1
  obtain ⟨q1, hh3⟩ := xck_s hh2
  obtain ⟨q2, hh4⟩ := xcls_s hh3
  rw [xst_eq] at hh4
  have q1 := (blt_iff _ _).mp q1
  refine ⟨_, _, hh4, fun p e R s m args below meth cd H locs lsA cells slots Q X N1 w => ?_⟩
  exact va_get (ref := C) (own := (xy mi).cls) (a := xad base adS q) (v := xval (xad base adS) (.inr (.inr (xd8 (xget d h q).2.2 i)))) X.1 X.2.1 X.2.2.2.2.2.2.2.1 c3 X.2.2.2.2.2.1 X.2.2.2.2.2.2.2.2.1 N1.2.2.1 q (by rw [xws_get q1, xcell_obj q2]) c1 i hi (X.2.2.2.2.2.2.2.1 _ hw) (fun x hx => by rw [ho] at hx; exact hx) (by rw [List.getElem?_map, List.getElem?_range (by rw [c2]; exact hi)]; show some (xfv _ (ft ci i) _) = _; rw [hf]; cases xd8 (xget d h q).2.2 i <;> rfl) hd (w lsA N1.2.2.2.2)
/-- the heap behind a store -/
theorem xNow.put {s : State} {H H1 : Heap} {locs : List Loc} {lsA : Array Slot} {nL N q i : Nat} {ls : List xO} {h : xBT xC d} {c1 : xC} {e1 : va_E} (hd9 : 2 ^ d ≤ 1000) (hN : xNow Dg cl cA fl ft base adS d h N nL ls s H locs lsA) (hq : q < N) (he : e1 = xcell (xad base adS) cA fl ft c1) (hat : va_at Dg cl (xad base adS q, e1) H1) (hz : H1.size = H.size) (oq : ∀ p : Nat, p ≠ xad base adS q → H1[p]? = H[p]?) :
    xNow Dg cl cA fl ft base adS d (xset d h q c1) N nL ls s H1 (locs ++ [⟨xad base adS q, i⟩]) lsA := by
  obtain ⟨n1, n2, n3, n4, n5⟩ := hN
  have hD := xws_D (base := base) (adS := adS) (cA := cA) (fl := fl) (ft := ft) (g := xget d h) (n := N) (by omega)
  have hP := n3.set hD (xws_get hq) hat oq
  refine ⟨by rw [hz, xgap_set (by omega)]; exact n1, n2, ?_, n4.put hz oq (by rw [xad_in (by omega)]; exact Nat.le_add_right _ _), n5⟩
  rw [xws_set (g' := xget d (xset d h q c1)) (by rw [xget_set d h q q c1 (by omega) (by omega), if_pos rfl]; exact he) (fun j hj hne => by rw [xget_set d h q j c1 (by omega) (by omega), if_neg hne])] at hP
  exact hP
/-- one instruction that changes one cell -/
theorem xSK.cell {pc' : Nat} {k' : xK d} (hk : xSK l Dg cl tys cA fl ft base adS GW xy xc xn xr Ex code K dl fs fin mi pc' k)
    (hs : ∀ (h : xBT xC d) (c : Nat × Nat) (ls : List xO) (st : List xV), k' h c ls st = some fin → ∃ (h1 : xBT xC d) (st1 : List xV), k h1 c ls st1 = some fin ∧
      ∀ (p : Program) (e : Env) (R : Room) (s : State) (m : MethodId) (args : Array Value) (below : List Frame) (meth : Method) (cd : Code) (H : Heap) (locs : List Loc) (lsA : Array Slot) (cells slots : Nat) (Q : State → Prop),
        xCtx Dg cl tys base GW Ex (xy mi) (xc mi) (xn mi) (xr mi) dl p R s m args meth cd → xNow Dg cl cA fl ft base adS d h c.1 (xn mi) ls s H locs lsA →
        (∀ (H1 : Heap) (locs1 : List Loc), xNow Dg cl cA fl ft base adS d h1 c.1 (xn mi) ls s H1 locs1 lsA → W p l e R s m args below meth cd H1 locs1 cells slots Q (F0 m pc' lsA (st1.map (xval (xad base adS))))) →
        W p l e R s m args below meth cd H locs cells slots Q (F0 m pc lsA (st.map (xval (xad base adS))))) :
    xSK l Dg cl tys cA fl ft base adS GW xy xc xn xr Ex code K dl fs fin mi pc k' := by
  intro h c ls st he
  obtain ⟨h1, st1, g1, h2⟩ := hs h c ls st he
  obtain ⟨r, h', c', l1, l2, l3, l4, w⟩ := hk h1 c ls st1 g1
  refine ⟨r, h', c', l1, l2, l3, l4, ?_⟩
  intro p e R s m args below meth cd H locs lsA cells slots mc ms X N g1 g2 g3 g4
  exact h2 p e R s m args below meth cd H locs lsA cells slots _ X N (fun H1 locs1 N1 => w p e R s m args below meth cd H1 locs1 lsA cells slots mc ms X N1 g1 g2 g3 g4)
theorem x_put {p : Program} {e : Env} {R : Room} {s : State} {m : MethodId} {args : Array Value} {below : List Frame} {meth : Method} {cd : Code} {H : Heap} {locs : List Loc} {lsA : Array Slot} {cells slots N0 ci i N index q nl v : Nat} {Q : State → Prop} {ls : List xO} {h : xBT xC d} {C : String} {T : u_T} {ty : Nat → FieldType} {rest : List Value} {w : Value}
    (hd9 : 2 ^ d ≤ 1000) (X : xCtx Dg cl tys base GW Ex (xy mi) (xc mi) (xn mi) (xr mi) dl p R s m args meth cd) (hN : xNow Dg cl cA fl ft base adS d h N0 nl ls s H locs lsA) (hC : xCl cl fl GW ci C T N ty) (hi : i < N) (hw : Cond.fieldLink (xy mi).cls index C (T i).2.1 (T i).2.2.1 ∈ GW) (ho : (T i).1 = C) (hq : q < N0) (hk : (xget d h q).1 = ci + 8)
    (hv : w = xfv (xad base adS) (ft ci i) v) (hv2 : v < 18446744073709551616) (hA : xok8 (xget d h q).2.2 = true) (hnar : narrow (ty i) w = w) (hfit : fits (ty i) w = true) (hfin : (T i).2.2.2 = true → (xy mi).name = "<init>" ∧ C = (xy mi).cls) (hd : decode (xc mi) pc = .ok (.putfield index, 3))
    (kk : ∀ (H1 : Heap) (locs1 : List Loc), xNow Dg cl cA fl ft base adS d (xset d h q (ci + 8, (0, xs8 (xget d h q).2.2 i v))) N0 nl ls s H1 locs1 lsA → W p l e R s m args below meth cd H1 locs1 cells slots Q (F0 m (pc + 3) lsA rest)) :
    W p l e R s m args below meth cd H locs cells slots Q (F0 m pc lsA (w :: .ref (xad base adS q) :: rest)) := by
  obtain ⟨c1, c2, c3, c4, c5⟩ := hC
  obtain ⟨x1, x2, x3, x4, x5, x6, x7, x8, x9, x10, x11, x12, x13⟩ := id X
  have he : (xws (xad base adS) cA fl ft (xget d h) N0)[q]? = some (xad base adS q, .inr (ci, (List.range (fl ci)).map (fun j => xfv (xad base adS) (ft ci j) (xd8 (xget d h q).2.2 j)))) := by rw [xws_get hq, xcell_obj hk]
  have hap := va_apart (own := (xy mi).cls) x8 c3 ty c4 c5 x9 c1
  obtain ⟨r, h1, cell, q1, q2, q3, q4⟩ := hN.2.2.1 q _ he
  have hr : r = (C, T, N) := Option.some.inj (h1.symm.trans c1)
  subst hr
  obtain ⟨hS, hfc, kC, hkC, hkind⟩ := x9.1 ci _ c1
  obtain ⟨cf, kf, fi, f, hf, hsl⟩ := hS i hi
  have hsame : s.fieldFound? C (T i).2.1 (T i).2.2.1 = some (cf, kf, fi, f) := by rw [← ho]; exact hf
  have hst := (u_facts hfc hkC (u_lays x8 c3 hi) hf).1
  have hln : i < ((List.range (fl ci)).map (fun j => xfv (xad base adS) (ft ci j) (xd8 (xget d h q).2.2 j))).length := by simp; omega
  have fin : ∀ H' : Heap, H'[xad base adS q]? = some (cell.setSlot f.slot w) → H'.size = H.size → (∀ z, z ≠ xad base adS q → H'[z]? = H[z]?) → W p l e R s m args below meth cd H' (locs ++ [⟨xad base adS q, f.slot⟩]) cells slots Q (F0 m (pc + 3) lsA rest) := by
    intro H' e1 e2 e3
    rw [hsl] at e1
    refine kk H' _ (hN.put hd9 hq (e1 := .inr (ci, ((List.range (fl ci)).map (fun j => xfv (xad base adS) (ft ci j) (xd8 (xget d h q).2.2 j))).set i w)) ?_ ⟨_, c1, t_OB.to (V := updV (vp_V _) i w) ⟨_, e1, q2, q3, t_set q4 hap hi w⟩ (fun j _ => vp_updV_set hln w j)⟩ e2 e3)
    rw [hv, xfs_set hv2 hA]
    rfl
  cases hfb : (T i).2.2.2 with
  | false =>
    have hlay := x8 _ (c3 _ (u_in_lay hi))
    unfold u_lay at hlay
    rw [if_neg (by rw [hfb]; decide)] at hlay
    have h6 := u_store hfc hkC hkind hlay hf (c4 i hi) hnar hfit
    exact W.putK x1 x2 (f := f) ⟨x6, x8 _ hw, ⟨_, _, _, hsame⟩, hst⟩ (by rw [q2]; exact h6) q1 q3 (by rw [hsl]; exact k2_hasslot (q4 i hi)) rfl rfl hd fin
  | true =>
    obtain ⟨g1, g2⟩ := hfin hfb
    have hlay := x8 _ (c3 _ (u_in_lay hi))
    unfold u_lay at hlay
    rw [if_pos (by rw [hfb])] at hlay
    have hcf : m.cls = cf := by
      obtain ⟨_, _, c', _, _, _, -, -, hf', -, -, -, hown2, -⟩ := Cond.laysFinal_spec hlay
      have e1 : c' = cf := by have := hf.symm.trans hf'; simp at this; exact this.1.symm
      rw [ho, g2] at hown2
      rw [← e1]; exact Option.some.inj (x6.symm.trans hown2)
    have h6 := u_fits hfc hkC hkind (Or.inr hlay) hf (c4 i hi) hnar hfit
    exact W.putFinK x1 x2 x6 (x8 _ hw) hsame hst hcf (x7.trans g1) (by rw [q2]; exact h6) q1 q3 (by rw [hsl]; exact k2_hasslot (q4 i hi)) rfl rfl hd fin
theorem s_puti {kc ci i N index : Nat} {C : String} {T : u_T} {ty : Nat → FieldType} (hd9 : 2 ^ d ≤ 1000) (hkc : kc = ci + 8) (hC : xCl cl fl GW ci C T N ty) (hi : i < N) (hf : ft ci i = 0) (hty : ty i = .int) (hfin : (T i).2.2.2 = true → (xy mi).name = "<init>" ∧ C = (xy mi).cls) (hw : Cond.fieldLink (xy mi).cls index C (T i).2.1 (T i).2.2.1 ∈ GW) (ho : (T i).1 = C) (hd : decode (xc mi) pc = .ok (.putfield index, 3)) (hk : xSK l Dg cl tys cA fl ft base adS GW xy xc xn xr Ex code K dl fs fin mi (pc + 3) k) : xSK l Dg cl tys cA fl ft base adS GW xy xc xn xr Ex code K dl fs fin mi pc (h_puti kc i k) := by
  subst hkc
  refine xSK.cell hk fun h c ls st hh => ?_
  obtain ⟨v, t, rfl, hh1⟩ := xpop_s hh
  obtain ⟨u, t, rfl, hh2⟩ := xpop_s hh1
  obtain ⟨a, rfl, hh3⟩ := xint_s hh2
  obtain ⟨q, rfl, hh4⟩ := xobj_s hh3
  obtain ⟨q1, hh5⟩ := xck_s hh4
  obtain ⟨q2, hh6⟩ := xcls_s hh5
  obtain ⟨q9, hh6⟩ := xck_s hh6
  rw [xst_eq, xsetK_eq] at hh6
  have q1 := (blt_iff _ _).mp q1
  refine ⟨_, _, hh6, fun p e R s m args below meth cd H locs lsA cells slots Q X N1 w => ?_⟩
  exact x_put hd9 X N1 hC hi hw ho q1 q2 (by rw [hf]; exact congrArg Value.int (xn_mod a).symm) (Nat.lt_trans (Nat.mod_lt a (by decide)) (by decide)) q9 (by rw [hty]; rfl) (by rw [hty]; rfl) hfin hd w
theorem s_putz {kc ci i N index : Nat} {C : String} {T : u_T} {ty : Nat → FieldType} (hd9 : 2 ^ d ≤ 1000) (hkc : kc = ci + 8) (hC : xCl cl fl GW ci C T N ty) (hi : i < N) (hf : ft ci i = 0) (hty : ty i = .boolean) (hfin : (T i).2.2.2 = true → (xy mi).name = "<init>" ∧ C = (xy mi).cls) (hw : Cond.fieldLink (xy mi).cls index C (T i).2.1 (T i).2.2.1 ∈ GW) (ho : (T i).1 = C) (hd : decode (xc mi) pc = .ok (.putfield index, 3)) (hk : xSK l Dg cl tys cA fl ft base adS GW xy xc xn xr Ex code K dl fs fin mi (pc + 3) k) : xSK l Dg cl tys cA fl ft base adS GW xy xc xn xr Ex code K dl fs fin mi pc (h_putz kc i k) := by
  subst hkc
  refine xSK.cell hk fun h c ls st hh => ?_
  obtain ⟨v, t, rfl, hh1⟩ := xpop_s hh
  obtain ⟨u, t, rfl, hh2⟩ := xpop_s hh1
  obtain ⟨a, rfl, hh3⟩ := xint_s hh2
  obtain ⟨ha, hh3⟩ := xck_s hh3
  obtain ⟨q, rfl, hh4⟩ := xobj_s hh3
  obtain ⟨q1, hh5⟩ := xck_s hh4
  obtain ⟨q2, hh6⟩ := xcls_s hh5
  obtain ⟨q9, hh6⟩ := xck_s hh6
  rw [xst_eq, xsetK_eq] at hh6
  have q1 := (blt_iff _ _).mp q1
  have ha := (blt_iff _ _).mp ha
  refine ⟨_, _, hh6, fun p e R s m args below meth cd H locs lsA cells slots Q X N1 w => ?_⟩
  refine x_put hd9 X N1 hC hi hw ho q1 q2 (by rw [hf]; rfl) (by omega) q9 ?_ ?_ hfin hd w
  · rw [hty]
    rcases (show a = 0 ∨ a = 1 by omega) with rfl | rfl <;> rfl
  · rw [hty]
    rcases (show a = 0 ∨ a = 1 by omega) with rfl | rfl <;> rfl
theorem s_putr {kc ci i N index : Nat} {C : String} {T : u_T} {ty : Nat → FieldType} (hd9 : 2 ^ d ≤ 1000) (hkc : kc = ci + 8) (hC : xCl cl fl GW ci C T N ty) (hi : i < N) (hf : ft ci i = 2) (hty : (∃ n, ty i = .object n) ∨ ∃ t, ty i = .array t) (hfin : (T i).2.2.2 = true → (xy mi).name = "<init>" ∧ C = (xy mi).cls) (hw : Cond.fieldLink (xy mi).cls index C (T i).2.1 (T i).2.2.1 ∈ GW) (ho : (T i).1 = C) (hd : decode (xc mi) pc = .ok (.putfield index, 3)) (hk : xSK l Dg cl tys cA fl ft base adS GW xy xc xn xr Ex code K dl fs fin mi (pc + 3) k) : xSK l Dg cl tys cA fl ft base adS GW xy xc xn xr Ex code K dl fs fin mi pc (h_putr kc i k) := by
  subst hkc
  refine xSK.cell hk fun h c ls st hh => ?_
  obtain ⟨v, t, rfl, hh1⟩ := xpop_s hh
  obtain ⟨u, t, rfl, hh2⟩ := xpop_s hh1
  obtain ⟨a, rfl, hh3⟩ := xref_s hh2
  obtain ⟨ha, hh3⟩ := xck_s hh3
  obtain ⟨q, rfl, hh4⟩ := xobj_s hh3
  obtain ⟨q1, hh5⟩ := xck_s hh4
  obtain ⟨q2, hh6⟩ := xcls_s hh5
  obtain ⟨q9, hh6⟩ := xck_s hh6
  rw [xst_eq, xsetK_eq] at hh6
  have q1 := (blt_iff _ _).mp q1
  have ha := (blt_iff _ _).mp ha
  refine ⟨_, _, hh6, fun p e R s m args below meth cd H locs lsA cells slots Q X N1 w => ?_⟩
  refine x_put hd9 X N1 hC hi hw ho q1 q2 (by rw [hf]; cases a <;> rfl) ha q9 ?_ ?_ hfin hd w
  · rcases hty with ⟨z, hz⟩ | ⟨z, hz⟩ <;> rw [hz] <;> cases a <;> rfl
  · rcases hty with ⟨z, hz⟩ | ⟨z, hz⟩ <;> rw [hz] <;> cases a <;> rfl
end XOBJ

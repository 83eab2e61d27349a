/-! Rows, and what is made. -/
section XARR
variable {l : Launch} {Dg : va_G} {cl : List vw_C} {tys : List (ClassId × FieldType)} {cA fl : Nat → Nat} {ft : Nat → Nat → Nat} {base : Nat} {adS : Nat → Nat} {GW : List Cond}
variable {xy : Nat → MethodName} {xc : Nat → ByteArray} {xn : Nat → Nat} {xr : Nat → Option FieldType} {Ex : State → Heap → Prop} {d e : Nat} {code : xBT (xB d) e} {bm bp : Nat → Nat}
variable {K n dl mi pc : Nat} {fs : List xF} {fin : xE d} {j k : xK d}

theorem s_iald {t0 : Nat} (ht : tys[t0]? = some (cA 0, .int)) (hd : decode (xc mi) pc = .ok (.iaload, 1)) (hk : xSK l Dg cl tys cA fl ft base adS GW xy xc xn xr Ex code K dl fs fin mi (pc + 1) k) : xSK l Dg cl tys cA fl ft base adS GW xy xc xn xr Ex code K dl fs fin mi pc (h_ald 0 k) := by
  refine hk.pure fun h c ls st hh => ?_
  obtain ⟨v, t, rfl, hh1⟩ := xpop_s hh
  obtain ⟨u, t, rfl, hh2⟩ := xpop_s hh1
  obtain ⟨i, rfl, hh3⟩ := xint_s hh2
  obtain ⟨q, rfl, hh4⟩ := xobj_s hh3
  obtain ⟨q1, hh5⟩ := xck_s hh4
  obtain ⟨m, A, hc, hh6⟩ := xrow_s hh5
  obtain ⟨q2, hh7⟩ := xck_s hh6
  obtain ⟨q3, hh8⟩ := xck_s hh7
  rw [xst_eq] at hh8
  have q1 := (blt_iff _ _).mp q1
  have q2 := (blt_iff _ _).mp q2
  have q3 := (blt_iff _ _).mp q3
  refine ⟨_, _, hh8, fun p e R s m0 args below meth cd H locs lsA cells slots Q X N1 w => ?_⟩
  refine va_iald (a := xad base adS q) (cA := cA 0) (n := m) (f := fun i => nI (xd4 A i)) (i := nI i) X.1 X.2.1 X.2.2.2.2.2.2.2.2.1 N1.2.2.1 q t0 (by rw [xws_get q1, hc]; rfl) ht (xn_in q3 q2) hd ?_
  rw [xn_clamp q3]
  exact w lsA N1.2.2.2.2
theorem s_bald {t0 : Nat} (ht : tys[t0]? = some (cA 1, .byte)) (hd : decode (xc mi) pc = .ok (.baload, 1)) (hk : xSK l Dg cl tys cA fl ft base adS GW xy xc xn xr Ex code K dl fs fin mi (pc + 1) k) : xSK l Dg cl tys cA fl ft base adS GW xy xc xn xr Ex code K dl fs fin mi pc (h_ald 1 k) := by
  refine hk.pure fun h c ls st hh => ?_
  obtain ⟨v, t, rfl, hh1⟩ := xpop_s hh
  obtain ⟨u, t, rfl, hh2⟩ := xpop_s hh1
  obtain ⟨i, rfl, hh3⟩ := xint_s hh2
  obtain ⟨q, rfl, hh4⟩ := xobj_s hh3
  obtain ⟨q1, hh5⟩ := xck_s hh4
  obtain ⟨m, A, hc, hh6⟩ := xrow_s hh5
  obtain ⟨q2, hh7⟩ := xck_s hh6
  obtain ⟨q3, hh8⟩ := xck_s hh7
  rw [xst_eq] at hh8
  have q1 := (blt_iff _ _).mp q1
  have q2 := (blt_iff _ _).mp q2
  have q3 := (blt_iff _ _).mp q3
  refine ⟨_, _, hh8, fun p e R s m0 args below meth cd H locs lsA cells slots Q X N1 w => ?_⟩
  refine va_bald (a := xad base adS q) (cA := cA 1) (n := m) (f := fun i => nI (xd4 A i)) (i := nI i) X.1 X.2.1 X.2.2.2.2.2.2.2.2.1 N1.2.2.1 q t0 (by rw [xws_get q1, hc]; rfl) ht (xn_in q3 q2) hd ?_
  rw [xn_clamp q3]
  exact w lsA N1.2.2.2.2
theorem s_zald {t0 : Nat} (ht : tys[t0]? = some (cA 2, .boolean)) (hd : decode (xc mi) pc = .ok (.baload, 1)) (hk : xSK l Dg cl tys cA fl ft base adS GW xy xc xn xr Ex code K dl fs fin mi (pc + 1) k) : xSK l Dg cl tys cA fl ft base adS GW xy xc xn xr Ex code K dl fs fin mi pc (h_ald 2 k) := by
  refine hk.pure fun h c ls st hh => ?_
  obtain ⟨v, t, rfl, hh1⟩ := xpop_s hh
  obtain ⟨u, t, rfl, hh2⟩ := xpop_s hh1
  obtain ⟨i, rfl, hh3⟩ := xint_s hh2
  obtain ⟨q, rfl, hh4⟩ := xobj_s hh3
  obtain ⟨q1, hh5⟩ := xck_s hh4
  obtain ⟨m, A, hc, hh6⟩ := xrow_s hh5
  obtain ⟨q2, hh7⟩ := xck_s hh6
  obtain ⟨q3, hh8⟩ := xck_s hh7
  rw [xst_eq] at hh8
  have q1 := (blt_iff _ _).mp q1
  have q2 := (blt_iff _ _).mp q2
  have q3 := (blt_iff _ _).mp q3
  refine ⟨_, _, hh8, fun p e R s m0 args below meth cd H locs lsA cells slots Q X N1 w => ?_⟩
  refine va_zald (a := xad base adS q) (cA := cA 2) (n := m) (f := fun i => nI (xd4 A i)) (i := nI i) X.1 X.2.1 X.2.2.2.2.2.2.2.2.1 N1.2.2.1 q t0 (by rw [xws_get q1, hc]; rfl) ht (xn_in q3 q2) hd ?_
  rw [xn_clamp q3]
  exact w lsA N1.2.2.2.2
/-- bytes or booleans, as they come -/
noncomputable def h_bald {d : Nat} (k : xK d) : xK d := fun h c ls st => xpop st (fun v st => xpop st (fun u st => xint v (fun i => xobj u (fun q => xck (Nat.blt q (Prod.fst c)) (xrow 1 (xget d h q) (fun m A => xck (Nat.blt i m) (xck (Nat.blt i 2147483648) (xst (xd4 A i) (fun x => k h c ls (Sum.inl x :: st))))))))))
theorem s_iast {t0 : Nat} (hd9 : 2 ^ d ≤ 1000) (ht : tys[t0]? = some (cA 0, .int)) (hd : decode (xc mi) pc = .ok (.iastore, 1)) (hk : xSK l Dg cl tys cA fl ft base adS GW xy xc xn xr Ex code K dl fs fin mi (pc + 1) k) : xSK l Dg cl tys cA fl ft base adS GW xy xc xn xr Ex code K dl fs fin mi pc (h_ast 0 f_id k) := by
  refine xSK.cell hk fun h c ls st hh => ?_
  obtain ⟨w0, t, rfl, hh0⟩ := xpop_s hh
  obtain ⟨v, t, rfl, hh1⟩ := xpop_s hh0
  obtain ⟨u, t, rfl, hh2⟩ := xpop_s hh1
  obtain ⟨a, rfl, hh3⟩ := xint_s hh2
  obtain ⟨i, rfl, hh4⟩ := xint_s hh3
  obtain ⟨q, rfl, hh5⟩ := xobj_s hh4
  obtain ⟨q1, hh6⟩ := xck_s hh5
  obtain ⟨m, A, hc, hh7⟩ := xrow_s hh6
  obtain ⟨q2, hh8⟩ := xck_s hh7
  obtain ⟨q3, hh9⟩ := xck_s hh8
  obtain ⟨q9, hh9⟩ := xck_s hh9
  rw [xst_eq, xsetK_eq] at hh9
  have q1 := (blt_iff _ _).mp q1
  have q2 := (blt_iff _ _).mp q2
  have q3 := (blt_iff _ _).mp q3
  refine ⟨_, _, hh9, fun p e R s m0 args below meth cd H locs lsA cells slots Q X N1 w => ?_⟩
  have he : (xws (xad base adS) cA fl ft (xget d h) c.1)[q]? = some (xad base adS q, .inl (cA 0, (m, .inl (fun i => nI (xd4 A i))))) := by rw [xws_get q1, hc]; rfl
  refine W.iast (j := nI i) (x := nI a) X.1 X.2.1 (N1.2.2.1 q _ he) ((X.2.2.2.2.2.2.2.2.1.2 t0 _ ht).1 m (fun j => .int (nI (xd4 A j)))) (fun z => by cases z) (by show ¬ (nI i < 0 ∨ (arrV _ _ _).slots.size ≤ _); rw [arrV_size]; exact xn_in q3 q2) rfl rfl hd fun H1 e1 z oq => ?_
  refine w H1 _ (N1.put hd9 q1 (e1 := .inl (cA 0, (m, .inl (fun j => nI (xd4 (xs4 A i (f_id a)) j))))) rfl ?_ z oq)
  show H1[xad base adS q]? = some (vp_cell _ _)
  rw [e1, vp_cell_i, xn_clamp q3]
  show some ((arrV _ _ _).setSlot i _) = _
  rw [arrV_store]
  show some (arrV (cA 0) m _) = some (arrV (cA 0) m (fun j => Value.int (nI (xd4 (xs4 A i (f_id a)) j))))
  refine congrArg (fun z => some (arrV (cA 0) m z)) (funext fun y => ?_)
  have hlt : f_id a < 4294967296 := by
    exact Nat.mod_lt a (by decide)
  rw [xd4_s A i (f_id a) y hlt q9]
  by_cases hy : y = i
  · subst hy
    rw [if_pos rfl]
    show updV _ _ _ _ = _
    simp only [updV, if_true]
    exact congrArg Value.int (xn_mod a).symm
  · rw [if_neg hy]
    show updV _ _ _ _ = _
    simp [updV, hy]
theorem s_bast {t0 : Nat} (hd9 : 2 ^ d ≤ 1000) (ht : tys[t0]? = some (cA 1, .byte)) (hd : decode (xc mi) pc = .ok (.bastore, 1)) (hk : xSK l Dg cl tys cA fl ft base adS GW xy xc xn xr Ex code K dl fs fin mi (pc + 1) k) : xSK l Dg cl tys cA fl ft base adS GW xy xc xn xr Ex code K dl fs fin mi pc (h_ast 1 f_byte k) := by
  refine xSK.cell hk fun h c ls st hh => ?_
  obtain ⟨w0, t, rfl, hh0⟩ := xpop_s hh
  obtain ⟨v, t, rfl, hh1⟩ := xpop_s hh0
  obtain ⟨u, t, rfl, hh2⟩ := xpop_s hh1
  obtain ⟨a, rfl, hh3⟩ := xint_s hh2
  obtain ⟨i, rfl, hh4⟩ := xint_s hh3
  obtain ⟨q, rfl, hh5⟩ := xobj_s hh4
  obtain ⟨q1, hh6⟩ := xck_s hh5
  obtain ⟨m, A, hc, hh7⟩ := xrow_s hh6
  obtain ⟨q2, hh8⟩ := xck_s hh7
  obtain ⟨q3, hh9⟩ := xck_s hh8
  obtain ⟨q9, hh9⟩ := xck_s hh9
  rw [xst_eq, xsetK_eq] at hh9
  have q1 := (blt_iff _ _).mp q1
  have q2 := (blt_iff _ _).mp q2
  have q3 := (blt_iff _ _).mp q3
  refine ⟨_, _, hh9, fun p e R s m0 args below meth cd H locs lsA cells slots Q X N1 w => ?_⟩
  have he : (xws (xad base adS) cA fl ft (xget d h) c.1)[q]? = some (xad base adS q, .inl (cA 1, (m, .inl (fun i => nI (xd4 A i))))) := by rw [xws_get q1, hc]; rfl
  refine W.bast (j := nI i) (x := nI a) X.1 X.2.1 (N1.2.2.1 q _ he) ((X.2.2.2.2.2.2.2.2.1.2 t0 _ ht).1 m (fun j => .int (nI (xd4 A j)))) (fun z => by cases z) (by show ¬ (nI i < 0 ∨ (arrV _ _ _).slots.size ≤ _); rw [arrV_size]; exact xn_in q3 q2) rfl rfl hd fun H1 e1 z oq => ?_
  refine w H1 _ (N1.put hd9 q1 (e1 := .inl (cA 1, (m, .inl (fun j => nI (xd4 (xs4 A i (f_byte a)) j))))) rfl ?_ z oq)
  show H1[xad base adS q]? = some (vp_cell _ _)
  rw [e1, vp_cell_i, xn_clamp q3]
  show some ((arrV _ _ _).setSlot i _) = _
  rw [arrV_store]
  show some (arrV (cA 1) m _) = some (arrV (cA 1) m (fun j => Value.int (nI (xd4 (xs4 A i (f_byte a)) j))))
  refine congrArg (fun z => some (arrV (cA 1) m z)) (funext fun y => ?_)
  have hlt : f_byte a < 4294967296 := by
    show (xif (Nat.ble 128 (a % 256)) (a % 256 + 4294967040) (a % 256)) < 4294967296
    cases Nat.ble 128 (a % 256)
    · show a % 256 < 4294967296
      omega
    · show a % 256 + 4294967040 < 4294967296
      omega
  rw [xd4_s A i (f_byte a) y hlt q9]
  by_cases hy : y = i
  · subst hy
    rw [if_pos rfl]
    show updV _ _ _ _ = _
    simp only [updV, if_true]
    exact congrArg Value.int (xn_byte a)
  · rw [if_neg hy]
    show updV _ _ _ _ = _
    simp [updV, hy]
theorem s_zast {t0 : Nat} (hd9 : 2 ^ d ≤ 1000) (ht : tys[t0]? = some (cA 2, .boolean)) (hd : decode (xc mi) pc = .ok (.bastore, 1)) (hk : xSK l Dg cl tys cA fl ft base adS GW xy xc xn xr Ex code K dl fs fin mi (pc + 1) k) : xSK l Dg cl tys cA fl ft base adS GW xy xc xn xr Ex code K dl fs fin mi pc (h_ast 2 f_one k) := by
  refine xSK.cell hk fun h c ls st hh => ?_
  obtain ⟨w0, t, rfl, hh0⟩ := xpop_s hh
  obtain ⟨v, t, rfl, hh1⟩ := xpop_s hh0
  obtain ⟨u, t, rfl, hh2⟩ := xpop_s hh1
  obtain ⟨a, rfl, hh3⟩ := xint_s hh2
  obtain ⟨i, rfl, hh4⟩ := xint_s hh3
  obtain ⟨q, rfl, hh5⟩ := xobj_s hh4
  obtain ⟨q1, hh6⟩ := xck_s hh5
  obtain ⟨m, A, hc, hh7⟩ := xrow_s hh6
  obtain ⟨q2, hh8⟩ := xck_s hh7
  obtain ⟨q3, hh9⟩ := xck_s hh8
  obtain ⟨q9, hh9⟩ := xck_s hh9
  rw [xst_eq, xsetK_eq] at hh9
  have q1 := (blt_iff _ _).mp q1
  have q2 := (blt_iff _ _).mp q2
  have q3 := (blt_iff _ _).mp q3
  refine ⟨_, _, hh9, fun p e R s m0 args below meth cd H locs lsA cells slots Q X N1 w => ?_⟩
  have he : (xws (xad base adS) cA fl ft (xget d h) c.1)[q]? = some (xad base adS q, .inl (cA 2, (m, .inl (fun i => nI (xd4 A i))))) := by rw [xws_get q1, hc]; rfl
  refine W.zast (j := nI i) (x := nI a) X.1 X.2.1 (N1.2.2.1 q _ he) ((X.2.2.2.2.2.2.2.2.1.2 t0 _ ht).1 m (fun j => .int (nI (xd4 A j)))) (fun z => by cases z) (by show ¬ (nI i < 0 ∨ (arrV _ _ _).slots.size ≤ _); rw [arrV_size]; exact xn_in q3 q2) rfl rfl hd fun H1 e1 z oq => ?_
  refine w H1 _ (N1.put hd9 q1 (e1 := .inl (cA 2, (m, .inl (fun j => nI (xd4 (xs4 A i (f_one a)) j))))) rfl ?_ z oq)
  show H1[xad base adS q]? = some (vp_cell _ _)
  rw [e1, vp_cell_i, xn_clamp q3]
  show some ((arrV _ _ _).setSlot i _) = _
  rw [arrV_store]
  show some (arrV (cA 2) m _) = some (arrV (cA 2) m (fun j => Value.int (nI (xd4 (xs4 A i (f_one a)) j))))
  refine congrArg (fun z => some (arrV (cA 2) m z)) (funext fun y => ?_)
  have hlt : f_one a < 4294967296 := by
    show a &&& 1 < 4294967296
    exact Nat.lt_of_le_of_lt (Nat.and_le_right) (by decide)
  rw [xd4_s A i (f_one a) y hlt q9]
  by_cases hy : y = i
  · subst hy
    rw [if_pos rfl]
    show updV _ _ _ _ = _
    simp only [updV, if_true]
    exact congrArg Value.int ((xn_and a 1).trans rfl)
  · rw [if_neg hy]
    show updV _ _ _ _ = _
    simp [updV, hy]
theorem s_alen {t0 t1 t2 t3 : Nat} (h0 : tys[t0]? = some (cA 0, .int)) (h1 : tys[t1]? = some (cA 1, .byte)) (h2 : tys[t2]? = some (cA 2, .boolean)) (h3 : tys[t3]? = some (cA 3, .long)) (hd : decode (xc mi) pc = .ok (.arraylength, 1)) (hk : xSK l Dg cl tys cA fl ft base adS GW xy xc xn xr Ex code K dl fs fin mi (pc + 1) k) : xSK l Dg cl tys cA fl ft base adS GW xy xc xn xr Ex code K dl fs fin mi pc (h_alen k) := by
  refine hk.pure fun h c ls st hh => ?_
  obtain ⟨u, t, rfl, hh1⟩ := xpop_s hh
  obtain ⟨q, rfl, hh2⟩ := xobj_s hh1
  obtain ⟨q1, hh3⟩ := xck_s hh2
  have q1 := (blt_iff _ _).mp q1
  revert hh3
  cases hc : xget d h q with
  | mk kd u =>
    obtain ⟨m, A⟩ := u
    intro hh3
    obtain ⟨q2, hh4⟩ := xck_s (b := Nat.blt kd 4) (k := k h c ls (Sum.inl m :: t)) hh3
    have q2 := (blt_iff _ _).mp q2
    refine ⟨_, _, hh4, fun p e R s m0 args below meth cd H locs lsA cells slots Q X N1 w => ?_⟩
    rcases (show kd = 0 ∨ kd = 1 ∨ kd = 2 ∨ kd = 3 by omega) with rfl | rfl | rfl | rfl
    · exact va_alen (x := (m, .inl (fun i => nI (xd4 A i)))) X.1 X.2.1 X.2.2.2.2.2.2.2.2.1 N1.2.2.1 q t0 (by rw [xws_get q1, hc]; rfl) h0 rfl hd (w lsA N1.2.2.2.2)
    · exact va_alen (x := (m, .inl (fun i => nI (xd4 A i)))) X.1 X.2.1 X.2.2.2.2.2.2.2.2.1 N1.2.2.1 q t1 (by rw [xws_get q1, hc]; rfl) h1 rfl hd (w lsA N1.2.2.2.2)
    · exact va_alen (x := (m, .inl (fun i => nI (xd4 A i)))) X.1 X.2.1 X.2.2.2.2.2.2.2.2.1 N1.2.2.1 q t2 (by rw [xws_get q1, hc]; rfl) h2 rfl hd (w lsA N1.2.2.2.2)
    · exact va_alen (x := (m, .inr (.inl (fun i => lN (xd8 A i))))) X.1 X.2.1 X.2.2.2.2.2.2.2.2.1 N1.2.2.1 q t3 (by rw [xws_get q1, hc]; rfl) h3 rfl hd (w lsA N1.2.2.2.2)
/-- the heap behind a new cell -/
theorem xNow.push {s : State} {H H1 : Heap} {locs : List Loc} {lsA : Array Slot} {nL N : Nat} {ls : List xO} {h : xBT xC d} {c1 : xC} (hd9 : 2 ^ d ≤ 1000) (hN : xNow Dg cl cA fl ft base adS d h N nL ls s H locs lsA) (hn : N + 1 < 2 ^ d) (hgp : xgap h = 0) (hat : va_at Dg cl (H.size, xcell (xad base adS) cA fl ft c1) H1) (hz : H1.size = H.size + 1) (oq : ∀ p : Nat, p < H.size → H1[p]? = H[p]?) :
    xNow Dg cl cA fl ft base adS d (xset d h N c1) (N + 1) nL ls s H1 locs lsA := by
  obtain ⟨n1, n2, n3, n4, n5⟩ := hN
  rw [hgp, Nat.add_zero] at n1
  have hP : va_P Dg cl (xws (xad base adS) cA fl ft (xget d h) N ++ [(xad base adS N, xcell (xad base adS) cA fl ft c1)]) H1 := by
    refine (n3.kept (fun k q hq => oq q.1 ((n3 k q hq).lt))).app (fun k q hq => ?_)
    have hz1 : k < 1 := (List.getElem?_eq_some_iff.mp hq).1
    rw [show k = 0 by omega] at hq
    cases hq
    rw [xad_in (by omega), ← n1]
    exact hat
  refine ⟨by rw [hz, n1, xgap_set hn, hgp]; omega, hn, ?_, ⟨by rw [hz]; exact Nat.le_trans n4.1 (Nat.le_succ _), fun q q1 q2 => by rw [oq q (Nat.lt_of_lt_of_le q1 n4.1)]; exact n4.2.1 q q1 q2, n4.2.2⟩, n5⟩
  rw [xws_push (g' := xget d (xset d h N c1)) (by rw [xget_set d h N N c1 (by omega) (by omega), if_pos rfl]) (fun j hj => by rw [xget_set d h N j c1 (by omega) (by omega), if_neg (by omega)])] at hP
  exact hP
theorem s_newi {t0 lim : Nat} (hd9 : 2 ^ d ≤ 1000) (hlim : lim = 2 ^ d) (ht : tys[t0]? = some (cA 0, .int)) (hw : Cond.arrayClass .int ∈ GW) (hd : decode (xc mi) pc = .ok (.newarray .int, 2)) (hk : xSK l Dg cl tys cA fl ft base adS GW xy xc xn xr Ex code K dl fs fin mi (pc + 2) k) : xSK l Dg cl tys cA fl ft base adS GW xy xc xn xr Ex code K dl fs fin mi pc (h_newa lim 0 k) := by
  subst hlim
  intro h c ls st hh
  obtain ⟨u, t, rfl, hh1⟩ := xpop_s hh
  obtain ⟨m, rfl, hh2⟩ := xint_s hh1
  obtain ⟨q1, hh3⟩ := xck_s hh2
  obtain ⟨c1, c2⟩ := c
  obtain ⟨q2, hh4⟩ := xck_s (b := Nat.blt (Nat.succ c1) (2 ^ d)) hh3
  obtain ⟨q5, hh4⟩ := xck_s hh4
  have q5 : xgap h = 0 := Nat.eq_of_beq_eq_true q5
  rw [xst_eq, xsetK_eq, xst_eq, xst_eq] at hh4
  have q1 := (blt_iff _ _).mp q1
  have q2 : c1 + 1 < 2 ^ d := (blt_iff _ _).mp q2
  obtain ⟨r, h', c', l1, l2, l3, l4, w⟩ := hk _ _ _ _ hh4
  have l1 : c1 + 1 ≤ c'.1 := l1
  have l2 : c2 + m ≤ c'.2 := l2
  refine ⟨r, h', c', by show c1 ≤ _; omega, by show c2 ≤ _; omega, fun _ => l3 q2, l4, ?_⟩
  intro p e R s m0 args below meth cd H locs lsA cells slots mc ms X N1 g1 g2 g3 g4
  have g1 : cells + (c'.1 - c1) = mc := g1
  have g2 : slots + (c'.2 - c2) = ms := g2
  have hcl : (nI m).toNatClampNeg = m := xn_clamp (by omega)
  refine va_newaK (atype := .int) (n := nI m) (N := m) (h := H.size) X.1 X.2.1 (X.2.2.2.2.2.2.2.1 _ hw) rfl hd rfl (nI_pos (by omega)) hcl (by show m * 4 ≤ _; omega) (by omega) (by omega) rfl fun H1 cB e1 z1 o1 hAr hNm => ?_
  have hcB : cB = cA 0 := by
    have h9 : s.vm.findClass ("[" ++ (FieldType.int).toString) = some (cA 0) := (X.2.2.2.2.2.2.2.2.1.2 t0 _ ht).2
    exact Option.some.inj (hNm.symm.trans h9)
  subst hcB
  have N2 := N1.push (c1 := (0, (m, Nat.mul c1 1048576))) hd9 q2 q5 (show H1[H.size]? = some (vp_cell _ _) by
    rw [e1]
    rw [vp_cell_i]
    congr 2
    funext y
    show Value.int 0 = .int (nI (xd4 (c1 * 1048576) y))
    rw [xd4_0 (show c1 * 1048576 < 4294967296 by omega), nI_0]) z1 o1
  have hw2 := w p e R s m0 args below meth cd H1 locs lsA (cells + 1) (slots + m) mc ms X N2 (by show cells + 1 + (c'.1 - (c1 + 1)) = mc; omega) (by show slots + m + (c'.2 - (c2 + m)) = ms; omega) g3 g4
  have hh9 : (xval (xad base adS) (.inr (.inr (Nat.add c1 1)))) = .ref H.size := by
    show Value.ref (xad base adS c1) = _
    rw [xad_in (by omega), N1.1, q5, Nat.add_zero]
  rw [List.map_cons, hh9] at hw2
  exact hw2
theorem s_newb {t0 lim : Nat} (hd9 : 2 ^ d ≤ 1000) (hlim : lim = 2 ^ d) (ht : tys[t0]? = some (cA 1, .byte)) (hw : Cond.arrayClass .byte ∈ GW) (hd : decode (xc mi) pc = .ok (.newarray .byte, 2)) (hk : xSK l Dg cl tys cA fl ft base adS GW xy xc xn xr Ex code K dl fs fin mi (pc + 2) k) : xSK l Dg cl tys cA fl ft base adS GW xy xc xn xr Ex code K dl fs fin mi pc (h_newa lim 1 k) := by
  subst hlim
  intro h c ls st hh
  obtain ⟨u, t, rfl, hh1⟩ := xpop_s hh
  obtain ⟨m, rfl, hh2⟩ := xint_s hh1
  obtain ⟨q1, hh3⟩ := xck_s hh2
  obtain ⟨c1, c2⟩ := c
  obtain ⟨q2, hh4⟩ := xck_s (b := Nat.blt (Nat.succ c1) (2 ^ d)) hh3
  obtain ⟨q5, hh4⟩ := xck_s hh4
  have q5 : xgap h = 0 := Nat.eq_of_beq_eq_true q5
  rw [xst_eq, xsetK_eq, xst_eq, xst_eq] at hh4
  have q1 := (blt_iff _ _).mp q1
  have q2 : c1 + 1 < 2 ^ d := (blt_iff _ _).mp q2
  obtain ⟨r, h', c', l1, l2, l3, l4, w⟩ := hk _ _ _ _ hh4
  have l1 : c1 + 1 ≤ c'.1 := l1
  have l2 : c2 + m ≤ c'.2 := l2
  refine ⟨r, h', c', by show c1 ≤ _; omega, by show c2 ≤ _; omega, fun _ => l3 q2, l4, ?_⟩
  intro p e R s m0 args below meth cd H locs lsA cells slots mc ms X N1 g1 g2 g3 g4
  have g1 : cells + (c'.1 - c1) = mc := g1
  have g2 : slots + (c'.2 - c2) = ms := g2
  have hcl : (nI m).toNatClampNeg = m := xn_clamp (by omega)
  refine va_newaK (atype := .byte) (n := nI m) (N := m) (h := H.size) X.1 X.2.1 (X.2.2.2.2.2.2.2.1 _ hw) rfl hd rfl (nI_pos (by omega)) hcl (by show m * 1 ≤ _; omega) (by omega) (by omega) rfl fun H1 cB e1 z1 o1 hAr hNm => ?_
  have hcB : cB = cA 1 := by
    have h9 : s.vm.findClass ("[" ++ (FieldType.byte).toString) = some (cA 1) := (X.2.2.2.2.2.2.2.2.1.2 t0 _ ht).2
    exact Option.some.inj (hNm.symm.trans h9)
  subst hcB
  have N2 := N1.push (c1 := (1, (m, Nat.mul c1 1048576))) hd9 q2 q5 (show H1[H.size]? = some (vp_cell _ _) by
    rw [e1]
    rw [vp_cell_i]
    congr 2
    funext y
    show Value.int 0 = .int (nI (xd4 (c1 * 1048576) y))
    rw [xd4_0 (show c1 * 1048576 < 4294967296 by omega), nI_0]) z1 o1
  have hw2 := w p e R s m0 args below meth cd H1 locs lsA (cells + 1) (slots + m) mc ms X N2 (by show cells + 1 + (c'.1 - (c1 + 1)) = mc; omega) (by show slots + m + (c'.2 - (c2 + m)) = ms; omega) g3 g4
  have hh9 : (xval (xad base adS) (.inr (.inr (Nat.add c1 1)))) = .ref H.size := by
    show Value.ref (xad base adS c1) = _
    rw [xad_in (by omega), N1.1, q5, Nat.add_zero]
  rw [List.map_cons, hh9] at hw2
  exact hw2
theorem s_newz {t0 lim : Nat} (hd9 : 2 ^ d ≤ 1000) (hlim : lim = 2 ^ d) (ht : tys[t0]? = some (cA 2, .boolean)) (hw : Cond.arrayClass .boolean ∈ GW) (hd : decode (xc mi) pc = .ok (.newarray .boolean, 2)) (hk : xSK l Dg cl tys cA fl ft base adS GW xy xc xn xr Ex code K dl fs fin mi (pc + 2) k) : xSK l Dg cl tys cA fl ft base adS GW xy xc xn xr Ex code K dl fs fin mi pc (h_newa lim 2 k) := by
  subst hlim
  intro h c ls st hh
  obtain ⟨u, t, rfl, hh1⟩ := xpop_s hh
  obtain ⟨m, rfl, hh2⟩ := xint_s hh1
  obtain ⟨q1, hh3⟩ := xck_s hh2
  obtain ⟨c1, c2⟩ := c
  obtain ⟨q2, hh4⟩ := xck_s (b := Nat.blt (Nat.succ c1) (2 ^ d)) hh3
  obtain ⟨q5, hh4⟩ := xck_s hh4
  have q5 : xgap h = 0 := Nat.eq_of_beq_eq_true q5
  rw [xst_eq, xsetK_eq, xst_eq, xst_eq] at hh4
  have q1 := (blt_iff _ _).mp q1
  have q2 : c1 + 1 < 2 ^ d := (blt_iff _ _).mp q2
  obtain ⟨r, h', c', l1, l2, l3, l4, w⟩ := hk _ _ _ _ hh4
  have l1 : c1 + 1 ≤ c'.1 := l1
  have l2 : c2 + m ≤ c'.2 := l2
  refine ⟨r, h', c', by show c1 ≤ _; omega, by show c2 ≤ _; omega, fun _ => l3 q2, l4, ?_⟩
  intro p e R s m0 args below meth cd H locs lsA cells slots mc ms X N1 g1 g2 g3 g4
  have g1 : cells + (c'.1 - c1) = mc := g1
  have g2 : slots + (c'.2 - c2) = ms := g2
  have hcl : (nI m).toNatClampNeg = m := xn_clamp (by omega)
  refine va_newaK (atype := .boolean) (n := nI m) (N := m) (h := H.size) X.1 X.2.1 (X.2.2.2.2.2.2.2.1 _ hw) rfl hd rfl (nI_pos (by omega)) hcl (by show m * 1 ≤ _; omega) (by omega) (by omega) rfl fun H1 cB e1 z1 o1 hAr hNm => ?_
  have hcB : cB = cA 2 := by
    have h9 : s.vm.findClass ("[" ++ (FieldType.boolean).toString) = some (cA 2) := (X.2.2.2.2.2.2.2.2.1.2 t0 _ ht).2
    exact Option.some.inj (hNm.symm.trans h9)
  subst hcB
  have N2 := N1.push (c1 := (2, (m, Nat.mul c1 1048576))) hd9 q2 q5 (show H1[H.size]? = some (vp_cell _ _) by
    rw [e1]
    rw [vp_cell_i]
    congr 2
    funext y
    show Value.int 0 = .int (nI (xd4 (c1 * 1048576) y))
    rw [xd4_0 (show c1 * 1048576 < 4294967296 by omega), nI_0]) z1 o1
  have hw2 := w p e R s m0 args below meth cd H1 locs lsA (cells + 1) (slots + m) mc ms X N2 (by show cells + 1 + (c'.1 - (c1 + 1)) = mc; omega) (by show slots + m + (c'.2 - (c2 + m)) = ms; omega) g3 g4
  have hh9 : (xval (xad base adS) (.inr (.inr (Nat.add c1 1)))) = .ref H.size := by
    show Value.ref (xad base adS c1) = _
    rw [xad_in (by omega), N1.1, q5, Nat.add_zero]
  rw [List.map_cons, hh9] at hw2
  exact hw2
theorem s_newj {t0 lim : Nat} (hd9 : 2 ^ d ≤ 1000) (hlim : lim = 2 ^ d) (ht : tys[t0]? = some (cA 3, .long)) (hw : Cond.arrayClass .long ∈ GW) (hd : decode (xc mi) pc = .ok (.newarray .long, 2)) (hk : xSK l Dg cl tys cA fl ft base adS GW xy xc xn xr Ex code K dl fs fin mi (pc + 2) k) : xSK l Dg cl tys cA fl ft base adS GW xy xc xn xr Ex code K dl fs fin mi pc (h_newa lim 3 k) := by
  subst hlim
  intro h c ls st hh
  obtain ⟨u, t, rfl, hh1⟩ := xpop_s hh
  obtain ⟨m, rfl, hh2⟩ := xint_s hh1
  obtain ⟨q1, hh3⟩ := xck_s hh2
  obtain ⟨c1, c2⟩ := c
  obtain ⟨q2, hh4⟩ := xck_s (b := Nat.blt (Nat.succ c1) (2 ^ d)) hh3
  obtain ⟨q5, hh4⟩ := xck_s hh4
  have q5 : xgap h = 0 := Nat.eq_of_beq_eq_true q5
  rw [xst_eq, xsetK_eq, xst_eq, xst_eq] at hh4
  have q1 := (blt_iff _ _).mp q1
  have q2 : c1 + 1 < 2 ^ d := (blt_iff _ _).mp q2
  obtain ⟨r, h', c', l1, l2, l3, l4, w⟩ := hk _ _ _ _ hh4
  have l1 : c1 + 1 ≤ c'.1 := l1
  have l2 : c2 + m ≤ c'.2 := l2
  refine ⟨r, h', c', by show c1 ≤ _; omega, by show c2 ≤ _; omega, fun _ => l3 q2, l4, ?_⟩
  intro p e R s m0 args below meth cd H locs lsA cells slots mc ms X N1 g1 g2 g3 g4
  have g1 : cells + (c'.1 - c1) = mc := g1
  have g2 : slots + (c'.2 - c2) = ms := g2
  have hcl : (nI m).toNatClampNeg = m := xn_clamp (by omega)
  refine va_newaK (atype := .long) (n := nI m) (N := m) (h := H.size) X.1 X.2.1 (X.2.2.2.2.2.2.2.1 _ hw) rfl hd rfl (nI_pos (by omega)) hcl (by show m * 8 ≤ _; omega) (by omega) (by omega) rfl fun H1 cB e1 z1 o1 hAr hNm => ?_
  have hcB : cB = cA 3 := by
    have h9 : s.vm.findClass ("[" ++ (FieldType.long).toString) = some (cA 3) := (X.2.2.2.2.2.2.2.2.1.2 t0 _ ht).2
    exact Option.some.inj (hNm.symm.trans h9)
  subst hcB
  have N2 := N1.push (c1 := (3, (m, Nat.mul c1 1048576))) hd9 q2 q5 (show H1[H.size]? = some (vp_cell _ _) by
    rw [e1]
    rw [vp_cell_l]
    congr 2
    funext y
    show Value.long 0 = .long (lN (xd8 (c1 * 1048576) y))
    rw [xd8_0 (show c1 * 1048576 < 18446744073709551616 by omega)]
    rfl) z1 o1
  have hw2 := w p e R s m0 args below meth cd H1 locs lsA (cells + 1) (slots + m) mc ms X N2 (by show cells + 1 + (c'.1 - (c1 + 1)) = mc; omega) (by show slots + m + (c'.2 - (c2 + m)) = ms; omega) g3 g4
  have hh9 : (xval (xad base adS) (.inr (.inr (Nat.add c1 1)))) = .ref H.size := by
    show Value.ref (xad base adS c1) = _
    rw [xad_in (by omega), N1.1, q5, Nat.add_zero]
  rw [List.map_cons, hh9] at hw2
  exact hw2
theorem s_new {ci kc N lim index : Nat} {C : String} {T : u_T} {ty : Nat → FieldType} (hd9 : 2 ^ d ≤ 1000) (hlim : lim = 2 ^ d) (hkc : kc = ci + 8) (hC : xCl cl fl GW ci C T N ty) (hft : ∀ i, i < N → xfv (fun _ => 0) (ft ci i) 0 = defaultValue (ty i)) (hw : Cond.classLink (xy mi).cls index C ∈ GW ∧ Cond.instantiable C N ∈ GW ∧ Cond.initialized C ∈ GW) (hd : decode (xc mi) pc = .ok (.new index, 3)) (hk : xSK l Dg cl tys cA fl ft base adS GW xy xc xn xr Ex code K dl fs fin mi (pc + 3) k) : xSK l Dg cl tys cA fl ft base adS GW xy xc xn xr Ex code K dl fs fin mi pc (h_new lim kc N k) := by
  subst hlim
  subst hkc
  intro h c ls st hh
  obtain ⟨c1, c2⟩ := c
  obtain ⟨q2, hh4⟩ := xck_s (b := Nat.blt (Nat.succ c1) (2 ^ d)) hh
  obtain ⟨q5, hh4⟩ := xck_s hh4
  have q5 : xgap h = 0 := Nat.eq_of_beq_eq_true q5
  rw [xst_eq, xsetK_eq, xst_eq, xst_eq] at hh4
  have q2 : c1 + 1 < 2 ^ d := (blt_iff _ _).mp q2
  obtain ⟨r, h', c', l1, l2, l3, l4, w⟩ := hk _ _ _ _ hh4
  have l1 : c1 + 1 ≤ c'.1 := l1
  have l2 : c2 + N ≤ c'.2 := l2
  refine ⟨r, h', c', by show c1 ≤ _; omega, by show c2 ≤ _; omega, fun _ => l3 q2, l4, ?_⟩
  intro p e R s m0 args below meth cd H locs lsA cells slots mc ms X N1 g1 g2 g3 g4
  have g1 : cells + (c'.1 - c1) = mc := g1
  have g2 : slots + (c'.2 - c2) = ms := g2
  obtain ⟨k1, k2, k3, k4, k5⟩ := hC
  obtain ⟨x1, x2, x3, x4, x5, x6, x7, x8, x9, x10, x11, x12, x13⟩ := id X
  have hKn := x9.1 ci _ k1
  refine W.newcK (n := N) (h := H.size) x1 x2 x6 (x8 _ hw.1) (x8 _ hw.2.1) (x8 _ hw.2.2) rfl hd (by omega) (by omega) hKn.2.1 rfl fun H1 kC hkC e1 z1 o1 => ?_
  have N2 := N1.push (c1 := (ci + 8, (0, Nat.mul c1 1048576))) hd9 q2 q5 (show va_at Dg cl (H.size, xcell (xad base adS) cA fl ft (ci + 8, (0, Nat.mul c1 1048576))) H1 from ⟨_, k1, (u_born ty x8 k3 hKn hkC e1 k4).to (fun i hi => by
    show defaultValue (ty i) = ((List.range (fl ci)).map (fun j => xfv (xad base adS) (ft ci j) (xd8 (c1 * 1048576) j))).getD i .null
    rw [List.getD_eq_getElem?_getD, List.getElem?_map, List.getElem?_range (by rw [k2]; exact hi)]
    show _ = xfv (xad base adS) (ft ci i) (xd8 (c1 * 1048576) i)
    rw [xd8_0 (show c1 * 1048576 < 18446744073709551616 by omega), ← hft i hi]
    match ft ci i with
    | 0 => rfl
    | 1 => rfl
    | _ + 2 => rfl)⟩) z1 o1
  have hw2 := w p e R s m0 args below meth cd H1 locs lsA (cells + 1) (slots + N) mc ms X N2 (by show cells + 1 + (c'.1 - (c1 + 1)) = mc; omega) (by show slots + N + (c'.2 - (c2 + N)) = ms; omega) g3 g4
  have hh9 : (xval (xad base adS) (.inr (.inr (Nat.add c1 1)))) = .ref H.size := by
    show Value.ref (xad base adS c1) = _
    rw [xad_in (by omega), N1.1, q5, Nat.add_zero]
  rw [List.map_cons, hh9] at hw2
  exact hw2
end XARR

/-! Math.min, Math.max of two ints (the library's rows: the class stands among those that are not walked). -/
noncomputable def h_mmin {d : Nat} (k : xK d) : xK d := fun h c ls st => xpop st (fun v st => xpop st (fun u st => xint v (fun b => xint u (fun a => xsmall 8 st (xst (xif (tq_lt b a) b a) (fun m => k h c ls (Sum.inl m :: st)))))))
noncomputable def h_mmax {d : Nat} (k : xK d) : xK d := fun h c ls st => xpop st (fun v st => xpop st (fun u st => xint v (fun b => xint u (fun a => xsmall 8 st (xst (xif (tq_lt a b) b a) (fun m => k h c ls (Sum.inl m :: st)))))))
theorem xif_nI {t : Bool} {a b : Nat} {P : Prop} [Decidable P] (h : t = true ↔ P) : nI (xif t b a) = if P then nI b else nI a := by
  cases t with
  | true => rw [if_pos (h.mp rfl)]; rfl
  | false => rw [if_neg (fun z => Bool.noConfusion (h.mpr z))]; rfl
section XLEAST
variable {l : Launch} {Dg : va_G} {cl : List vw_C} {tys : List (ClassId × FieldType)} {cA fl : Nat → Nat} {ft : Nat → Nat → Nat} {base : Nat} {adS : Nat → Nat} {GW : List Cond}
variable {xy : Nat → MethodName} {xc : Nat → ByteArray} {xn : Nat → Nat} {xr : Nat → Option FieldType} {Ex : State → Heap → Prop} {d e : Nat} {code : xBT (xB d) e}
variable {K dl mi pc : Nat} {fs : List xF} {fin : xE d} {k : xK d}
theorem s_mmin {index : Nat} (hw : Cond.methodLink (xy mi).cls index Lib.Math.min.name ∈ GW ∧ Cond.static Lib.Math.min.name ∈ GW ∧ Cond.initialized "java/lang/Math" ∈ GW ∧ Cond.code Lib.Math.min.name Lib.Math.min.code 2 (some .int) ∈ GW) (hd : decode (xc mi) pc = .ok (.invokestatic index, 3)) (hk : xSK l Dg cl tys cA fl ft base adS GW xy xc xn xr Ex code K dl fs fin mi (pc + 3) k) : xSK l Dg cl tys cA fl ft base adS GW xy xc xn xr Ex code K dl fs fin mi pc (h_mmin k) := by
  intro h c ls st hh
  obtain ⟨v, t, rfl, hh1⟩ := xpop_s hh
  obtain ⟨u, t, rfl, hh2⟩ := xpop_s hh1
  obtain ⟨b, rfl, hh3⟩ := xint_s hh2
  obtain ⟨a, rfl, hh4⟩ := xint_s hh3
  obtain ⟨hsm, hh5⟩ := xsmall_s (ad := xad base adS) hh4
  rw [xst_eq] at hh5
  obtain ⟨r, h', c', l1, l2, l3, l4, w⟩ := hk h c ls _ hh5
  refine ⟨r, h', c', l1, l2, l3, l4, ?_⟩
  intro p e R s m args below meth cd H locs lsA cells slots mc ms X N g1 g2 g3 g4
  obtain ⟨x1, x2, x3, x4, x5, x6, x7, x8, x9, x10, x11, x12, x13⟩ := id X
  have hw2 := w p e R s m args below meth cd H locs lsA cells slots mc ms X N g1 g2 g3 g4
  refine va_mmin (x := nI a) (y := nI b) x1 x2 (by rw [x4]; exact N.2.2.2.2.2.1.symm) x6 (x8 _ hw.1) (x8 _ hw.2.1) (x8 _ hw.2.2.1) (x8 _ hw.2.2.2) (by omega) (Nat.le_trans (Nat.add_le_add_right hsm 13) (by omega)) (by omega) (by omega) hd ?_
  rw [← xif_nI (tq_lt_s b a)]
  exact hw2
theorem s_mmax {index : Nat} (hw : Cond.methodLink (xy mi).cls index Lib.Math.max.name ∈ GW ∧ Cond.static Lib.Math.max.name ∈ GW ∧ Cond.initialized "java/lang/Math" ∈ GW ∧ Cond.code Lib.Math.max.name Lib.Math.max.code 2 (some .int) ∈ GW) (hd : decode (xc mi) pc = .ok (.invokestatic index, 3)) (hk : xSK l Dg cl tys cA fl ft base adS GW xy xc xn xr Ex code K dl fs fin mi (pc + 3) k) : xSK l Dg cl tys cA fl ft base adS GW xy xc xn xr Ex code K dl fs fin mi pc (h_mmax k) := by
  intro h c ls st hh
  obtain ⟨v, t, rfl, hh1⟩ := xpop_s hh
  obtain ⟨u, t, rfl, hh2⟩ := xpop_s hh1
  obtain ⟨b, rfl, hh3⟩ := xint_s hh2
  obtain ⟨a, rfl, hh4⟩ := xint_s hh3
  obtain ⟨hsm, hh5⟩ := xsmall_s (ad := xad base adS) hh4
  rw [xst_eq] at hh5
  obtain ⟨r, h', c', l1, l2, l3, l4, w⟩ := hk h c ls _ hh5
  refine ⟨r, h', c', l1, l2, l3, l4, ?_⟩
  intro p e R s m args below meth cd H locs lsA cells slots mc ms X N g1 g2 g3 g4
  obtain ⟨x1, x2, x3, x4, x5, x6, x7, x8, x9, x10, x11, x12, x13⟩ := id X
  have hw2 := w p e R s m args below meth cd H locs lsA cells slots mc ms X N g1 g2 g3 g4
  refine va_mmax (x := nI a) (y := nI b) x1 x2 (by rw [x4]; exact N.2.2.2.2.2.1.symm) x6 (x8 _ hw.1) (x8 _ hw.2.1) (x8 _ hw.2.2.1) (x8 _ hw.2.2.2) (by omega) (Nat.le_trans (Nat.add_le_add_right hsm 13) (by omega)) (by omega) (by omega) hd ?_
  rw [← xif_nI (tq_lt_s a b)]
  exact hw2
end XLEAST

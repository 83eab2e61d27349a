/-! Long numbers. -/
theorem xl_bv (a : Nat) : (lN a).toBitVec = BitVec.ofNat 64 a := rfl
theorem xl_mod (a : Nat) : lN (a % 18446744073709551616) = lN a := by
  apply Int64.toBitVec_inj.mp
  show BitVec.ofNat 64 (a % 18446744073709551616) = BitVec.ofNat 64 a
  apply BitVec.eq_of_toNat_eq
  simp
theorem xl_toInt (a : Nat) : (lN a).toInt = (((a + 9223372036854775808) % 18446744073709551616 : Nat) : Int) - 9223372036854775808 := by
  show (BitVec.ofNat 64 a).toInt = _
  rw [BitVec.toInt_ofNat']
  have h : ((2 : Nat) ^ 64 : Nat) = 18446744073709551616 := by decide
  rw [Int.bmod_def]
  omega
noncomputable def xlsg (a : Nat) : Nat := Nat.mod (Nat.add a 9223372036854775808) 18446744073709551616
theorem xl_sg (a : Nat) : (lN a).toInt = (xlsg a : Int) - 9223372036854775808 := xl_toInt a
theorem xl_lt (a b : Nat) : lN a < lN b ↔ xlsg a < xlsg b := by
  rw [Int64.lt_iff_toInt_lt, xl_sg, xl_sg]; omega
theorem xl_eq (a b : Nat) : lN a = lN b ↔ xlsg a = xlsg b := by
  rw [← Int64.toInt_inj, xl_sg, xl_sg]; omega
noncomputable def f_ladd (a b : Nat) : Nat := Nat.mod (Nat.add a b) 18446744073709551616
noncomputable def f_lshl (a b : Nat) : Nat := Nat.mod (Nat.shiftLeft a b) 18446744073709551616
noncomputable def f_lshr (a b : Nat) : Nat := xif (Nat.blt a 9223372036854775808) (Nat.shiftRight a b) (Nat.sub 18446744073709551615 (Nat.shiftRight (Nat.sub 18446744073709551615 a) b))
noncomputable def f_lcmp (a b : Nat) : Nat := xif (Nat.blt (xlsg b) (xlsg a)) 1 (xif (Nat.beq (xlsg a) (xlsg b)) 0 4294967295)
theorem xl_add (a b : Nat) : lN a + lN b = lN (f_ladd a b) := by
  rw [lN_add]; exact (xl_mod (a + b)).symm
theorem xl_and (a b : Nat) : lN a &&& lN b = lN (Nat.land a b) := by
  apply Int64.toBitVec_inj.mp
  show BitVec.ofNat 64 a &&& BitVec.ofNat 64 b = BitVec.ofNat 64 (a &&& b)
  apply BitVec.eq_of_toNat_eq
  simp [Nat.and_mod_two_pow]
theorem xl_or (a b : Nat) : lN a ||| lN b = lN (Nat.lor a b) := by
  apply Int64.toBitVec_inj.mp
  show BitVec.ofNat 64 a ||| BitVec.ofNat 64 b = BitVec.ofNat 64 (a ||| b)
  apply BitVec.eq_of_toNat_eq
  simp [Nat.or_mod_two_pow]
theorem xl_c : ∀ k, k < 64 → ((nI k).toInt64 &&& 63) = lN k := by decide +kernel
theorem xl_sm : ∀ k, k < 64 → (BitVec.ofNat 64 k).smod 64 = BitVec.ofNat 64 k := by decide +kernel
theorem xl_shl (n : Nat) {k : Nat} (hk : k < 64) : lN n <<< ((nI k).toInt64 &&& 63) = lN (f_lshl n k) := by
  rw [xl_c k hk]
  show _ = lN ((n <<< k) % 18446744073709551616)
  rw [xl_mod, Nat.shiftLeft_eq]
  apply Int64.toBitVec_inj.mp
  rw [Int64.toBitVec_shiftLeft, xl_bv, xl_bv, xl_bv, xl_sm k hk]
  apply BitVec.eq_of_toNat_eq
  rw [BitVec.shiftLeft_eq', BitVec.toNat_shiftLeft, BitVec.toNat_ofNat, BitVec.toNat_ofNat, BitVec.toNat_ofNat, Nat.mod_eq_of_lt (show k < 2 ^ 64 by omega), Nat.shiftLeft_eq, Nat.mul_mod, Nat.mod_mod, ← Nat.mul_mod]
theorem xl_floor (m : Nat) {P : Nat} (hP : 0 < P) : (-((m : Int) + 1)) / (P : Int) = -(((m / P : Nat) : Int) + 1) := by
  have h1 := Nat.div_add_mod m P
  have h2 := Nat.mod_lt m hP
  have h3 : ((P * (m / P) : Nat) : Int) + ((m % P : Nat) : Int) = (m : Int) := by rw [← Int.natCast_add, h1]
  rw [Int.natCast_mul] at h3
  have e : -((m : Int) + 1) = ((P : Int) - 1 - ((m % P : Nat) : Int)) + (-(((m / P : Nat) : Int) + 1)) * (P : Int) := by
    rw [Int.neg_mul, Int.add_mul, Int.one_mul, Int.mul_comm ((m / P : Nat) : Int)]
    omega
  rw [e, Int.add_mul_ediv_right _ _ (by omega), Int.ediv_eq_zero_of_lt (by omega) (by omega), Int.zero_add]
theorem xl_shr {a k : Nat} (ha : a < 18446744073709551616) (hk : k < 64) : lN a >>> ((nI k).toInt64 &&& 63) = lN (f_lshr a k) := by
  rw [xl_c k hk]
  apply Int64.toInt_inj.mp
  have e : (lN a >>> lN k).toInt = (lN a).toInt >>> k := by
    have h1 : (lN a >>> lN k).toInt = (lN a).toInt >>> ((lN k).toBitVec.smod 64).toNat := BitVec.toInt_sshiftRight ..
    rw [h1, xl_bv, xl_sm k hk, BitVec.toNat_ofNat, Nat.mod_eq_of_lt (show k < 2 ^ 64 by omega)]
  rw [e, Int.shiftRight_eq_div_pow, xl_toInt, xl_toInt]
  have hP : 0 < 2 ^ k := Nat.pow_pos (by decide)
  by_cases h : a < 9223372036854775808
  · have ef : f_lshr a k = a / 2 ^ k := by
      unfold f_lshr
      rw [(blt_iff a 9223372036854775808).mpr h]
      exact Nat.shiftRight_eq_div_pow a k
    rw [ef]
    have hd : a / 2 ^ k ≤ a := Nat.div_le_self _ _
    have e1 : (((a + 9223372036854775808) % 18446744073709551616 : Nat) : Int) - 9223372036854775808 = (a : Int) := by omega
    rw [e1]
    have e2 : (a : Int) / ((2 ^ k : Nat) : Int) = ((a / 2 ^ k : Nat) : Int) := (Int.natCast_ediv a (2 ^ k)).symm
    rw [e2]
    omega
  · have hb : Nat.blt a 9223372036854775808 = false := by rw [← Bool.not_eq_true, blt_iff]; exact h
    have ef : f_lshr a k = 18446744073709551615 - (18446744073709551615 - a) / 2 ^ k := by
      unfold f_lshr
      rw [hb]
      show 18446744073709551615 - (18446744073709551615 - a) >>> k = _
      rw [Nat.shiftRight_eq_div_pow]
    rw [ef]
    have hd : (18446744073709551615 - a) / 2 ^ k ≤ 18446744073709551615 - a := Nat.div_le_self _ _
    have e1 : (((a + 9223372036854775808) % 18446744073709551616 : Nat) : Int) - 9223372036854775808 = -(((18446744073709551615 - a : Nat) : Int) + 1) := by omega
    rw [e1]
    rw [xl_floor (18446744073709551615 - a) hP]
    clear ef
    generalize (18446744073709551615 - a) / 2 ^ k = q at hd ⊢
    omega
theorem xl_cmp (a b : Nat) : lg_cmp (lN a) (lN b) = nI (f_lcmp a b) := by
  unfold lg_cmp f_lcmp
  by_cases h : xlsg b < xlsg a
  · rw [if_pos ((xl_lt b a).mpr h), (blt_iff _ _).mpr h]
    rfl
  · rw [if_neg (fun z => h ((xl_lt b a).mp z)), show Nat.blt (xlsg b) (xlsg a) = false by rw [← Bool.not_eq_true, blt_iff]; exact h]
    by_cases h2 : xlsg a = xlsg b
    · rw [if_pos ((xl_eq a b).mpr h2), h2, show Nat.beq (xlsg b) (xlsg b) = true from Nat.beq_refl _]
      rfl
    · rw [if_neg (fun z => h2 ((xl_eq a b).mp z)), show Nat.beq (xlsg a) (xlsg b) = false by
        rw [← Bool.not_eq_true, Nat.beq_eq]; exact h2]
      rfl
/-! the pieces -/
noncomputable def xlng {R : Type} (v : xV) (k : Nat → Option R) : Option R := Sum.rec (motive := fun _ => Option R) (fun _ => none) (fun u => Sum.rec (motive := fun _ => Option R) k (fun _ => none) u) v
theorem xlng_s {R : Type} {v : xV} {k : Nat → Option R} {x : R} (h : xlng v k = some x) : ∃ n, v = .inr (.inl n) ∧ k n = some x := by
  cases v with
  | inl n => cases h
  | inr u =>
    cases u with
    | inl n => exact ⟨n, rfl, h⟩
    | inr n => cases h
/-- the place behind is empty -/
noncomputable def xln {R : Type} (i : Nat) : List xO → Option R → Option R := Nat.rec (motive := fun _ => List xO → Option R → Option R) (fun ls k => List.rec (motive := fun _ => Option R) none (fun a _ _ => Option.rec (motive := fun _ => Option R) k (fun _ => none) a) ls) (fun _ ih ls k => List.rec (motive := fun _ => Option R) none (fun _ t _ => ih t k) ls) i
theorem xln_s {R : Type} : ∀ {i : Nat} {ls : List xO} {k : Option R} {x : R}, xln i ls k = some x → ls[i]? = some none ∧ k = some x
  | 0, [], k, x, h => by cases h
  | 0, none :: t, k, x, h => ⟨rfl, h⟩
  | 0, some v :: t, k, x, h => by cases h
  | i + 1, [], k, x, h => by cases h
  | i + 1, a :: t, k, x, h => by
    obtain ⟨h1, h2⟩ := xln_s (i := i) (ls := t) (k := k) (x := x) h
    exact ⟨by rw [List.getElem?_cons_succ]; exact h1, h2⟩
theorem xL_at2 {ad : Nat → Nat} {lsA : Array Slot} {nL : Nat} {ls : List xO} (h : xL ad lsA nL ls) {i : Nat} {v : xV} (hi : ls[i]? = some (some v)) (h2 : ls[i + 1]? = some none) : lsA[i]? = some (.val (xval ad v)) := by
  refine h.2.2.2 (i, xval ad v) (xcl_mem.mpr ?_)
  unfold xclaim
  rw [hi]
  simp [h2]
/-! instructions -/
noncomputable def h_lconst {d : Nat} (n : Nat) (k : xK d) : xK d := fun h c ls st => k h c ls (Sum.inr (Sum.inl n) :: st)
noncomputable def h_lload {d : Nat} (i : Nat) (k : xK d) : xK d := fun h c ls st => xlg i ls (fun v => xlng v (fun _ => xln (Nat.succ i) ls (k h c ls (v :: st))))
noncomputable def h_i2l {d : Nat} (k : xK d) : xK d := fun h c ls st => xpop st (fun v st => xint v (fun a => xck (Nat.blt a 2147483648) (k h c ls (Sum.inr (Sum.inl a) :: st))))
noncomputable def h_l2i {d : Nat} (k : xK d) : xK d := fun h c ls st => xpop st (fun v st => xlng v (fun a => xst (Nat.mod a 4294967296) (fun m => k h c ls (Sum.inl m :: st))))
noncomputable def h_lbin {d : Nat} (f : Nat → Nat → Nat) (k : xK d) : xK d := fun h c ls st => xpop st (fun v st => xpop st (fun u st => xlng v (fun b => xlng u (fun a => xst (f a b) (fun m => k h c ls (Sum.inr (Sum.inl m) :: st))))))
noncomputable def h_lsh {d : Nat} (f : Nat → Nat → Nat) (k : xK d) : xK d := fun h c ls st => xpop st (fun v st => xpop st (fun u st => xint v (fun b => xlng u (fun a => xck (Nat.blt b 64) (xck (Nat.blt a 18446744073709551616) (xst (f a b) (fun m => k h c ls (Sum.inr (Sum.inl m) :: st))))))))
noncomputable def h_lcmp {d : Nat} (k : xK d) : xK d := fun h c ls st => xpop st (fun v st => xpop st (fun u st => xlng v (fun b => xlng u (fun a => xst (f_lcmp a b) (fun m => k h c ls (Sum.inl m :: st))))))
noncomputable def h_lald {d : Nat} (k : xK d) : xK d := fun h c ls st => xpop st (fun v st => xpop st (fun u st => xint v (fun i => xobj u (fun q => xck (Nat.blt q (Prod.fst c)) (xrow 3 (xget d h q) (fun m A => xck (Nat.blt i m) (xck (Nat.blt i 2147483648) (xst (xd8 A i) (fun x => k h c ls (Sum.inr (Sum.inl x) :: st))))))))))
noncomputable def h_last {d : Nat} (k : xK d) : xK d := fun h c ls st => xpop st (fun w st => xpop st (fun v st => xpop st (fun u st => xlng w (fun a => xint v (fun i => xobj u (fun q => xck (Nat.blt q (Prod.fst c)) (xrow 3 (xget d h q) (fun m A => xck (Nat.blt i m) (xck (Nat.blt i 2147483648) (xck (xok8 A) (xst (xs8 A i (Nat.mod a 18446744073709551616)) (fun B => xsetK d h q (3, (m, B)) (fun h => k h c ls st)))))))))))))
noncomputable def h_ishl {d : Nat} (k : xK d) : xK d := fun h c ls st => xpop st (fun v st => xpop st (fun u st => xint v (fun b => xint u (fun a => xck (Nat.blt b 32) (xst (Nat.mod (Nat.shiftLeft a b) 4294967296) (fun m => k h c ls (Sum.inl m :: st)))))))
theorem xn_c : ∀ k, k < 32 → ((nI k) &&& 31) = nI k := by decide +kernel
theorem xn_sm : ∀ k, k < 32 → (BitVec.ofNat 32 k).smod 32 = BitVec.ofNat 32 k := by decide +kernel
theorem xn_shl (n : Nat) {k : Nat} (hk : k < 32) : nI n <<< (nI k &&& 31) = nI (Nat.mod (Nat.shiftLeft n k) 4294967296) := by
  rw [xn_c k hk]
  show _ = nI ((n <<< k) % 4294967296)
  rw [xn_mod, Nat.shiftLeft_eq]
  apply Int32.toBitVec_inj.mp
  rw [Int32.toBitVec_shiftLeft]
  show BitVec.ofNat 32 n <<< ((BitVec.ofNat 32 k).smod 32) = BitVec.ofNat 32 (n * 2 ^ k)
  rw [xn_sm k hk]
  apply BitVec.eq_of_toNat_eq
  rw [BitVec.shiftLeft_eq', BitVec.toNat_shiftLeft, BitVec.toNat_ofNat, BitVec.toNat_ofNat, BitVec.toNat_ofNat, Nat.mod_eq_of_lt (show k < 2 ^ 32 by omega), Nat.shiftLeft_eq, Nat.mul_mod, Nat.mod_mod, ← Nat.mul_mod]
section XLO
variable {l : Launch} {Dg : va_G} {cl : List vw_C} {tys : List (ClassId × FieldType)} {cA fl : Nat → Nat} {ft : Nat → Nat → Nat} {base : Nat} {adS : Nat → Nat} {GW : List Cond}
variable {xy : Nat → MethodName} {xc : Nat → ByteArray} {xn : Nat → Nat} {xr : Nat → Option FieldType} {Ex : State → Heap → Prop} {d e : Nat} {code : xBT (xB d) e}
variable {K dl mi pc : Nat} {fs : List xF} {fin : xE d} {j k : xK d}
theorem s_lconst {q : Fin 2} {n : Nat} (hn : lN n = Int64.ofNat (q : Nat)) (hd : decode (xc mi) pc = .ok (.lconst q, 1)) (hk : xSK l Dg cl tys cA fl ft base adS GW xy xc xn xr Ex code K dl fs fin mi (pc + 1) k) : xSK l Dg cl tys cA fl ft base adS GW xy xc xn xr Ex code K dl fs fin mi pc (h_lconst n k) := by
  refine hk.pure fun h c ls st hh => ?_
  exact ⟨_, _, hh, fun p e R s m args below meth cd H locs lsA cells slots Q X N w => lv_lconst (v := lN n) X.1 X.2.1 hd hn.symm (w lsA N.2.2.2.2)⟩
theorem s_ldc2 {index n : Nat} {v : Int64} (hv : lN n = v) (hw : Cond.constantLong (xy mi).cls index v ∈ GW) (hd : decode (xc mi) pc = .ok (.ldc2_w index, 3)) (hk : xSK l Dg cl tys cA fl ft base adS GW xy xc xn xr Ex code K dl fs fin mi (pc + 3) k) : xSK l Dg cl tys cA fl ft base adS GW xy xc xn xr Ex code K dl fs fin mi pc (h_lconst n k) := by
  subst hv
  refine hk.pure fun h c ls st hh => ?_
  exact ⟨_, _, hh, fun p e R s m args below meth cd H locs lsA cells slots Q X N w => lv_ldc2 (v := lN n) X.1 X.2.1 X.2.2.2.2.2.1 (X.2.2.2.2.2.2.2.1 _ hw) hd (w lsA N.2.2.2.2)⟩
theorem s_lload_n {i : Nat} {q : Fin 4} (hi : (q : Nat) = i) (hd : decode (xc mi) pc = .ok (.lload_n q, 1)) (hk : xSK l Dg cl tys cA fl ft base adS GW xy xc xn xr Ex code K dl fs fin mi (pc + 1) k) : xSK l Dg cl tys cA fl ft base adS GW xy xc xn xr Ex code K dl fs fin mi pc (h_lload i k) := by
  refine hk.pure fun h c ls st hh => ?_
  obtain ⟨v, h1, hh1⟩ := xlg_s hh
  obtain ⟨n, rfl, hh2⟩ := xlng_s hh1
  obtain ⟨h2, hh3⟩ := xln_s hh2
  exact ⟨_, _, hh3, fun p e R s m args below meth cd H locs lsA cells slots Q X N w => lv_lload_n (x := lN n) X.1 X.2.1 hd hi (xL_at2 N.2.2.2.2 h1 h2) (w lsA N.2.2.2.2)⟩
theorem s_lload {i : Nat} (hd : decode (xc mi) pc = .ok (.lload i, 2)) (hk : xSK l Dg cl tys cA fl ft base adS GW xy xc xn xr Ex code K dl fs fin mi (pc + 2) k) : xSK l Dg cl tys cA fl ft base adS GW xy xc xn xr Ex code K dl fs fin mi pc (h_lload i k) := by
  refine hk.pure fun h c ls st hh => ?_
  obtain ⟨v, h1, hh1⟩ := xlg_s hh
  obtain ⟨n, rfl, hh2⟩ := xlng_s hh1
  obtain ⟨h2, hh3⟩ := xln_s hh2
  exact ⟨_, _, hh3, fun p e R s m args below meth cd H locs lsA cells slots Q X N w => lv_lload (x := lN n) X.1 X.2.1 hd (xL_at2 N.2.2.2.2 h1 h2) (w lsA N.2.2.2.2)⟩
theorem s_i2l (hd : decode (xc mi) pc = .ok (.i2l, 1)) (hk : xSK l Dg cl tys cA fl ft base adS GW xy xc xn xr Ex code K dl fs fin mi (pc + 1) k) : xSK l Dg cl tys cA fl ft base adS GW xy xc xn xr Ex code K dl fs fin mi pc (h_i2l k) := by
  refine hk.pure fun h c ls st hh => ?_
  obtain ⟨v, t, rfl, hh1⟩ := xpop_s hh
  obtain ⟨a, rfl, hh2⟩ := xint_s hh1
  obtain ⟨ha, hh3⟩ := xck_s hh2
  have ha := (blt_iff _ _).mp ha
  exact ⟨_, _, hh3, fun p e R s m args below meth cd H locs lsA cells slots Q X N w => lv_i2l (x := nI a) (v := lN a) X.1 X.2.1 hd (nI_l (by omega)) (w lsA N.2.2.2.2)⟩
theorem s_l2i (hd : decode (xc mi) pc = .ok (.l2i, 1)) (hk : xSK l Dg cl tys cA fl ft base adS GW xy xc xn xr Ex code K dl fs fin mi (pc + 1) k) : xSK l Dg cl tys cA fl ft base adS GW xy xc xn xr Ex code K dl fs fin mi pc (h_l2i k) := by
  refine hk.pure fun h c ls st hh => ?_
  obtain ⟨v, t, rfl, hh1⟩ := xpop_s hh
  obtain ⟨a, rfl, hh2⟩ := xlng_s hh1
  rw [xst_eq] at hh2
  exact ⟨_, _, hh2, fun p e R s m args below meth cd H locs lsA cells slots Q X N w => lv_l2i (x := lN a) (v := nI (Nat.mod a 4294967296)) X.1 X.2.1 hd ((lN_i a).trans (xn_mod a).symm) (w lsA N.2.2.2.2)⟩
theorem s_ladd (hd : decode (xc mi) pc = .ok (.ladd, 1)) (hk : xSK l Dg cl tys cA fl ft base adS GW xy xc xn xr Ex code K dl fs fin mi (pc + 1) k) : xSK l Dg cl tys cA fl ft base adS GW xy xc xn xr Ex code K dl fs fin mi pc (h_lbin f_ladd k) := by
  refine hk.pure fun h c ls st hh => ?_
  obtain ⟨v, t, rfl, hh1⟩ := xpop_s hh
  obtain ⟨u, t, rfl, hh2⟩ := xpop_s hh1
  obtain ⟨b, rfl, hh3⟩ := xlng_s hh2
  obtain ⟨a, rfl, hh4⟩ := xlng_s hh3
  rw [xst_eq] at hh4
  exact ⟨_, _, hh4, fun p e R s m args below meth cd H locs lsA cells slots Q X N w => lv_ladd (x := lN a) (y := lN b) X.1 X.2.1 hd (by rw [xl_add]; exact w lsA N.2.2.2.2)⟩
theorem s_land (hd : decode (xc mi) pc = .ok (.land, 1)) (hk : xSK l Dg cl tys cA fl ft base adS GW xy xc xn xr Ex code K dl fs fin mi (pc + 1) k) : xSK l Dg cl tys cA fl ft base adS GW xy xc xn xr Ex code K dl fs fin mi pc (h_lbin Nat.land k) := by
  refine hk.pure fun h c ls st hh => ?_
  obtain ⟨v, t, rfl, hh1⟩ := xpop_s hh
  obtain ⟨u, t, rfl, hh2⟩ := xpop_s hh1
  obtain ⟨b, rfl, hh3⟩ := xlng_s hh2
  obtain ⟨a, rfl, hh4⟩ := xlng_s hh3
  rw [xst_eq] at hh4
  exact ⟨_, _, hh4, fun p e R s m args below meth cd H locs lsA cells slots Q X N w => lv_land (x := lN a) (y := lN b) X.1 X.2.1 hd (by rw [xl_and]; exact w lsA N.2.2.2.2)⟩
theorem s_lor (hd : decode (xc mi) pc = .ok (.lor, 1)) (hk : xSK l Dg cl tys cA fl ft base adS GW xy xc xn xr Ex code K dl fs fin mi (pc + 1) k) : xSK l Dg cl tys cA fl ft base adS GW xy xc xn xr Ex code K dl fs fin mi pc (h_lbin Nat.lor k) := by
  refine hk.pure fun h c ls st hh => ?_
  obtain ⟨v, t, rfl, hh1⟩ := xpop_s hh
  obtain ⟨u, t, rfl, hh2⟩ := xpop_s hh1
  obtain ⟨b, rfl, hh3⟩ := xlng_s hh2
  obtain ⟨a, rfl, hh4⟩ := xlng_s hh3
  rw [xst_eq] at hh4
  exact ⟨_, _, hh4, fun p e R s m args below meth cd H locs lsA cells slots Q X N w => lv_lor (x := lN a) (y := lN b) X.1 X.2.1 hd (by rw [xl_or]; exact w lsA N.2.2.2.2)⟩
theorem s_lshl (hd : decode (xc mi) pc = .ok (.lshl, 1)) (hk : xSK l Dg cl tys cA fl ft base adS GW xy xc xn xr Ex code K dl fs fin mi (pc + 1) k) : xSK l Dg cl tys cA fl ft base adS GW xy xc xn xr Ex code K dl fs fin mi pc (h_lsh f_lshl k) := by
  refine hk.pure fun h c ls st hh => ?_
  obtain ⟨v, t, rfl, hh1⟩ := xpop_s hh
  obtain ⟨u, t, rfl, hh2⟩ := xpop_s hh1
  obtain ⟨b, rfl, hh3⟩ := xint_s hh2
  obtain ⟨a, rfl, hh4⟩ := xlng_s hh3
  obtain ⟨hb, hh5⟩ := xck_s hh4
  obtain ⟨ha, hh6⟩ := xck_s hh5
  rw [xst_eq] at hh6
  have hb := (blt_iff _ _).mp hb
  exact ⟨_, _, hh6, fun p e R s m args below meth cd H locs lsA cells slots Q X N w => lv_lshl (x := lN a) (y := nI b) X.1 X.2.1 hd (xl_shl a hb) (w lsA N.2.2.2.2)⟩
theorem s_lshr (hd : decode (xc mi) pc = .ok (.lshr, 1)) (hk : xSK l Dg cl tys cA fl ft base adS GW xy xc xn xr Ex code K dl fs fin mi (pc + 1) k) : xSK l Dg cl tys cA fl ft base adS GW xy xc xn xr Ex code K dl fs fin mi pc (h_lsh f_lshr k) := by
  refine hk.pure fun h c ls st hh => ?_
  obtain ⟨v, t, rfl, hh1⟩ := xpop_s hh
  obtain ⟨u, t, rfl, hh2⟩ := xpop_s hh1
  obtain ⟨b, rfl, hh3⟩ := xint_s hh2
  obtain ⟨a, rfl, hh4⟩ := xlng_s hh3
  obtain ⟨hb, hh5⟩ := xck_s hh4
  obtain ⟨ha, hh6⟩ := xck_s hh5
  rw [xst_eq] at hh6
  have hb := (blt_iff _ _).mp hb
  have ha := (blt_iff _ _).mp ha
  exact ⟨_, _, hh6, fun p e R s m args below meth cd H locs lsA cells slots Q X N w => lv_lshr (x := lN a) (y := nI b) X.1 X.2.1 hd (xl_shr ha hb) (w lsA N.2.2.2.2)⟩
theorem s_lcmp (hd : decode (xc mi) pc = .ok (.lcmp, 1)) (hk : xSK l Dg cl tys cA fl ft base adS GW xy xc xn xr Ex code K dl fs fin mi (pc + 1) k) : xSK l Dg cl tys cA fl ft base adS GW xy xc xn xr Ex code K dl fs fin mi pc (h_lcmp k) := by
  refine hk.pure fun h c ls st hh => ?_
  obtain ⟨v, t, rfl, hh1⟩ := xpop_s hh
  obtain ⟨u, t, rfl, hh2⟩ := xpop_s hh1
  obtain ⟨b, rfl, hh3⟩ := xlng_s hh2
  obtain ⟨a, rfl, hh4⟩ := xlng_s hh3
  rw [xst_eq] at hh4
  exact ⟨_, _, hh4, fun p e R s m args below meth cd H locs lsA cells slots Q X N w => W.lcmp (x := lN a) (y := lN b) X.1 X.2.1 hd (by rw [xl_cmp]; exact w lsA N.2.2.2.2)⟩
theorem s_ishl (hd : decode (xc mi) pc = .ok (.ishl, 1)) (hk : xSK l Dg cl tys cA fl ft base adS GW xy xc xn xr Ex code K dl fs fin mi (pc + 1) k) : xSK l Dg cl tys cA fl ft base adS GW xy xc xn xr Ex code K dl fs fin mi pc (h_ishl k) := by
  refine hk.pure fun h c ls st hh => ?_
  obtain ⟨v, t, rfl, hh1⟩ := xpop_s hh
  obtain ⟨u, t, rfl, hh2⟩ := xpop_s hh1
  obtain ⟨b, rfl, hh3⟩ := xint_s hh2
  obtain ⟨a, rfl, hh4⟩ := xint_s hh3
  obtain ⟨hb, hh5⟩ := xck_s hh4
  rw [xst_eq] at hh5
  have hb := (blt_iff _ _).mp hb
  exact ⟨_, _, hh5, fun p e R s m args below meth cd H locs lsA cells slots Q X N w => lv_ishl (x := nI a) (y := nI b) X.1 X.2.1 hd (by rw [xn_shl a hb]; exact w lsA N.2.2.2.2)⟩
theorem s_lald {t0 : Nat} (ht : tys[t0]? = some (cA 3, .long)) (hd : decode (xc mi) pc = .ok (.laload, 1)) (hk : xSK l Dg cl tys cA fl ft base adS GW xy xc xn xr Ex code K dl fs fin mi (pc + 1) k) : xSK l Dg cl tys cA fl ft base adS GW xy xc xn xr Ex code K dl fs fin mi pc (h_lald k) := by
  refine hk.pure fun h c ls st hh => ?_
  obtain ⟨v, t, rfl, hh1⟩ := xpop_s hh
  obtain ⟨u, t, rfl, hh2⟩ := xpop_s hh1
  obtain ⟨i, rfl, hh3⟩ := xint_s hh2
  obtain ⟨q, rfl, hh4⟩ := xobj_s hh3
  obtain ⟨q1, hh5⟩ := xck_s hh4
  obtain ⟨m, A, hc, hh6⟩ := xrow_s hh5
  obtain ⟨q2, hh7⟩ := xck_s hh6
  obtain ⟨q3, hh8⟩ := xck_s hh7
  rw [xst_eq] at hh8
  have q1 := (blt_iff _ _).mp q1
  have q2 := (blt_iff _ _).mp q2
  have q3 := (blt_iff _ _).mp q3
  refine ⟨_, _, hh8, fun p e R s m0 args below meth cd H locs lsA cells slots Q X N1 w => ?_⟩
  refine va_lald (a := xad base adS q) (cA := cA 3) (n := m) (f := fun i => lN (xd8 A i)) (i := nI i) X.1 X.2.1 X.2.2.2.2.2.2.2.2.1 N1.2.2.1 q t0 (by rw [xws_get q1, hc]; rfl) ht (xn_in q3 q2) hd ?_
  rw [xn_clamp q3]
  exact w lsA N1.2.2.2.2
theorem s_last {t0 : Nat} (hd9 : 2 ^ d ≤ 1000) (ht : tys[t0]? = some (cA 3, .long)) (hd : decode (xc mi) pc = .ok (.lastore, 1)) (hk : xSK l Dg cl tys cA fl ft base adS GW xy xc xn xr Ex code K dl fs fin mi (pc + 1) k) : xSK l Dg cl tys cA fl ft base adS GW xy xc xn xr Ex code K dl fs fin mi pc (h_last k) := by
  refine xSK.cell hk fun h c ls st hh => ?_
  obtain ⟨w0, t, rfl, hh0⟩ := xpop_s hh
  obtain ⟨v, t, rfl, hh1⟩ := xpop_s hh0
  obtain ⟨u, t, rfl, hh2⟩ := xpop_s hh1
  obtain ⟨a, rfl, hh3⟩ := xlng_s hh2
  obtain ⟨i, rfl, hh4⟩ := xint_s hh3
  obtain ⟨q, rfl, hh5⟩ := xobj_s hh4
  obtain ⟨q1, hh6⟩ := xck_s hh5
  obtain ⟨m, A, hc, hh7⟩ := xrow_s hh6
  obtain ⟨q2, hh8⟩ := xck_s hh7
  obtain ⟨q3, hh9⟩ := xck_s hh8
  obtain ⟨q9, hh9⟩ := xck_s hh9
  rw [xst_eq, xsetK_eq] at hh9
  have q1 := (blt_iff _ _).mp q1
  have q2 := (blt_iff _ _).mp q2
  have q3 := (blt_iff _ _).mp q3
  refine ⟨_, _, hh9, fun p e R s m0 args below meth cd H locs lsA cells slots Q X N1 w => ?_⟩
  have he : (xws (xad base adS) cA fl ft (xget d h) c.1)[q]? = some (xad base adS q, .inl (cA 3, (m, .inr (.inl (fun i => lN (xd8 A i)))))) := by rw [xws_get q1, hc]; rfl
  refine W.last (j := nI i) (x := lN a) X.1 X.2.1 (N1.2.2.1 q _ he) ((X.2.2.2.2.2.2.2.2.1.2 t0 _ ht).1 m (fun j => .long (lN (xd8 A j)))) (fun z => by cases z) (by show ¬ (nI i < 0 ∨ (arrV _ _ _).slots.size ≤ _); rw [arrV_size]; exact xn_in q3 q2) rfl rfl hd fun H1 e1 z oq => ?_
  refine w H1 _ (N1.put hd9 q1 (e1 := .inl (cA 3, (m, .inr (.inl (fun j => lN (xd8 (xs8 A i (Nat.mod a 18446744073709551616)) j)))))) rfl ?_ z oq)
  show H1[xad base adS q]? = some (vp_cell _ _)
  rw [e1, vp_cell_l, xn_clamp q3]
  show some ((arrV _ _ _).setSlot i _) = _
  rw [arrV_store]
  show some (arrV (cA 3) m _) = some (arrV (cA 3) m (fun j => Value.long (lN (xd8 (xs8 A i (Nat.mod a 18446744073709551616)) j))))
  refine congrArg (fun z => some (arrV (cA 3) m z)) (funext fun y => ?_)
  have hlt : Nat.mod a 18446744073709551616 < 18446744073709551616 := Nat.mod_lt a (by decide)
  rw [xd8_s A i (Nat.mod a 18446744073709551616) y hlt q9]
  by_cases hy : y = i
  · subst hy
    rw [if_pos rfl]
    show updV _ _ _ _ = _
    simp only [updV, if_true]
    exact congrArg Value.long (xl_mod a).symm
  · rw [if_neg hy]
    show updV _ _ _ _ = _
    simp only [updV, if_neg hy]
end XLO
/-! what a base gives they keep -/
section XLM
variable {R : Type} {x : R}
theorem m_xlng {v : xV} {k k' : Nat → Option R} (hk : ∀ n, k n = some x → k' n = some x) : xlng v k = some x → xlng v k' = some x := by
  cases v with
  | inl n => exact id
  | inr u =>
    cases u with
    | inl n => exact hk n
    | inr n => exact id
theorem m_xln : ∀ {i : Nat} {ls : List xO} {a a' : Option R}, (a = some x → a' = some x) → xln i ls a = some x → xln i ls a' = some x
  | 0, [], _, _, _ => id
  | 0, none :: _, _, _, ha => ha
  | 0, some _ :: _, _, _, _ => id
  | i + 1, [], _, _, _ => id
  | i + 1, _ :: t, a, a', ha => m_xln (i := i) (ls := t) (a := a) (a' := a') ha
variable {d : Nat} {fin : xE d} {k k' : xK d}
theorem m_lconst {n : Nat} (hk : xKm fin k k') : xKm fin (h_lconst n k) (h_lconst n k') := fun h c ls st => hk h c ls (Sum.inr (Sum.inl n) :: st)
theorem m_lload {i : Nat} (hk : xKm fin k k') : xKm fin (h_lload i k) (h_lload i k') := fun h c ls st => m_xlg (ls := ls) fun v => m_xlng (v := v) fun _ => m_xln (ls := ls) (hk h c ls (v :: st))
theorem m_i2l (hk : xKm fin k k') : xKm fin (h_i2l k) (h_i2l k') := fun h c ls st => m_xpop (st := st) fun v st => m_xint (v := v) fun a => m_xck (hk h c ls (Sum.inr (Sum.inl a) :: st))
theorem m_l2i (hk : xKm fin k k') : xKm fin (h_l2i k) (h_l2i k') := fun h c ls st => m_xpop (st := st) fun v st => m_xlng (v := v) fun a => m_xst fun m => hk h c ls (Sum.inl m :: st)
theorem m_lbin {f : Nat → Nat → Nat} (hk : xKm fin k k') : xKm fin (h_lbin f k) (h_lbin f k') := fun h c ls st => m_xpop (st := st) fun v st => m_xpop (st := st) fun u st => m_xlng (v := v) fun _ => m_xlng (v := u) fun _ => m_xst fun m => hk h c ls (Sum.inr (Sum.inl m) :: st)
theorem m_lsh {f : Nat → Nat → Nat} (hk : xKm fin k k') : xKm fin (h_lsh f k) (h_lsh f k') := fun h c ls st => m_xpop (st := st) fun v st => m_xpop (st := st) fun u st => m_xint (v := v) fun _ => m_xlng (v := u) fun _ => m_xck (m_xck (m_xst fun m => hk h c ls (Sum.inr (Sum.inl m) :: st)))
theorem m_lcmp (hk : xKm fin k k') : xKm fin (h_lcmp k) (h_lcmp k') := fun h c ls st => m_xpop (st := st) fun v st => m_xpop (st := st) fun u st => m_xlng (v := v) fun _ => m_xlng (v := u) fun _ => m_xst fun m => hk h c ls (Sum.inl m :: st)
theorem m_ishl (hk : xKm fin k k') : xKm fin (h_ishl k) (h_ishl k') := fun h c ls st => m_xpop (st := st) fun v st => m_xpop (st := st) fun u st => m_xint (v := v) fun _ => m_xint (v := u) fun _ => m_xck (m_xst fun m => hk h c ls (Sum.inl m :: st))
theorem m_lald (hk : xKm fin k k') : xKm fin (h_lald k) (h_lald k') := fun h c ls st => m_xpop (st := st) fun v st => m_xpop (st := st) fun u st => m_xint (v := v) fun i => m_xobj (v := u) fun q => m_xck (m_xrow (c := xget d h q) fun m A => m_xck (m_xck (m_xst fun x => hk h c ls (Sum.inr (Sum.inl x) :: st))))
theorem m_last (hk : xKm fin k k') : xKm fin (h_last k) (h_last k') := fun h c ls st => m_xpop (st := st) fun w st => m_xpop (st := st) fun v st => m_xpop (st := st) fun u st => m_xlng (v := w) fun a => m_xint (v := v) fun i => m_xobj (v := u) fun q => m_xck (m_xrow (c := xget d h q) fun m A => m_xck (m_xck (m_xck (m_xst fun B => m_xsetK fun h => hk h c ls st))))
end XLM

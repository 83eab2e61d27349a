/-! The shift of a number with its sign. -/
noncomputable def f_ishr (a b : Nat) : Nat := xif (Nat.blt a 2147483648) (Nat.shiftRight a b) (Nat.sub 4294967295 (Nat.shiftRight (Nat.sub 4294967295 a) b))
theorem xn_shra {a k : Nat} (ha : a < 4294967296) (hk : k < 32) : nI a >>> (nI k &&& 31) = nI (f_ishr a k) := by
  rw [xn_c k hk]
  apply Int32.toInt_inj.mp
  have e : (nI a >>> nI k).toInt = (nI a).toInt >>> k := by
    have h1 : (nI a >>> nI k).toInt = (nI a).toInt >>> ((nI k).toBitVec.smod 32).toNat := BitVec.toInt_sshiftRight ..
    rw [h1]
    show (nI a).toInt >>> ((BitVec.ofNat 32 k).smod 32).toNat = _
    rw [xn_sm k hk, BitVec.toNat_ofNat, Nat.mod_eq_of_lt (show k < 2 ^ 32 by omega)]
  rw [e, Int.shiftRight_eq_div_pow, xn_toInt, xn_toInt]
  have hP : 0 < 2 ^ k := Nat.pow_pos (by decide)
  by_cases h : a < 2147483648
  · have ef : f_ishr a k = a / 2 ^ k := by
      unfold f_ishr
      rw [(blt_iff a 2147483648).mpr h]
      exact Nat.shiftRight_eq_div_pow a k
    rw [ef]
    have hd : a / 2 ^ k ≤ a := Nat.div_le_self _ _
    have e1 : (((a + 2147483648) % 4294967296 : Nat) : Int) - 2147483648 = (a : Int) := by omega
    rw [e1]
    have e2 : (a : Int) / ((2 ^ k : Nat) : Int) = ((a / 2 ^ k : Nat) : Int) := (Int.natCast_ediv a (2 ^ k)).symm
    rw [e2]
    omega
  · have hb : Nat.blt a 2147483648 = false := by rw [← Bool.not_eq_true, blt_iff]; exact h
    have ef : f_ishr a k = 4294967295 - (4294967295 - a) / 2 ^ k := by
      unfold f_ishr
      rw [hb]
      show 4294967295 - (4294967295 - a) >>> k = _
      rw [Nat.shiftRight_eq_div_pow]
    rw [ef]
    have hd : (4294967295 - a) / 2 ^ k ≤ 4294967295 - a := Nat.div_le_self _ _
    have e1 : (((a + 2147483648) % 4294967296 : Nat) : Int) - 2147483648 = -(((4294967295 - a : Nat) : Int) + 1) := by omega
    rw [e1]
    rw [xl_floor (4294967295 - a) hP]
    clear ef
    generalize (4294967295 - a) / 2 ^ k = q at hd ⊢
    omega
noncomputable def h_ishra {d : Nat} (k : xK d) : xK d := fun h c ls st => xpop st (fun v st => xpop st (fun u st => xint v (fun b => xint u (fun a => xck (Nat.blt b 32) (xck (Nat.blt a 4294967296) (xst (f_ishr a b) (fun m => k h c ls (Sum.inl m :: st))))))))
section XSH
variable {l : Launch} {Dg : va_G} {cl : List vw_C} {tys : List (ClassId × FieldType)} {cA fl : Nat → Nat} {ft : Nat → Nat → Nat} {base : Nat} {adS : Nat → Nat} {GW : List Cond}
variable {xy : Nat → MethodName} {xc : Nat → ByteArray} {xn : Nat → Nat} {xr : Nat → Option FieldType} {Ex : State → Heap → Prop} {d e : Nat} {code : xBT (xB d) e}
variable {K dl mi pc : Nat} {fs : List xF} {fin : xE d} {k k' : xK d}
theorem s_ishra (hd : decode (xc mi) pc = .ok (.ishr, 1)) (hk : xSK l Dg cl tys cA fl ft base adS GW xy xc xn xr Ex code K dl fs fin mi (pc + 1) k) : xSK l Dg cl tys cA fl ft base adS GW xy xc xn xr Ex code K dl fs fin mi pc (h_ishra k) := by
  refine hk.pure fun h c ls st hh => ?_
  obtain ⟨v, t, rfl, hh1⟩ := xpop_s hh
  obtain ⟨u, t, rfl, hh2⟩ := xpop_s hh1
  obtain ⟨b, rfl, hh3⟩ := xint_s hh2
  obtain ⟨a, rfl, hh4⟩ := xint_s hh3
  obtain ⟨q1, hh5⟩ := xck_s hh4
  obtain ⟨q2, hh6⟩ := xck_s hh5
  rw [xst_eq] at hh6
  have q1 := (blt_iff _ _).mp q1
  have q2 := (blt_iff _ _).mp q2
  exact ⟨_, _, hh6, fun p e R s m args below meth cd H locs lsA cells slots Q X N w => lv_ishr (x := nI a) (y := nI b) X.1 X.2.1 hd (by rw [xn_shra q2 q1]; exact w lsA N.2.2.2.2)⟩
theorem m_ishra (hk : xKm fin k k') : xKm fin (h_ishra k) (h_ishra k') := fun h c ls st => m_xpop (st := st) fun v st => m_xpop (st := st) fun u st => m_xint (v := v) fun _ => m_xint (v := u) fun _ => m_xck (m_xck (m_xst fun m => hk h c ls (Sum.inl m :: st)))
end XSH
/-! A switch, also on numbers below 0. -/
noncomputable def h_tablen {d : Nat} (lo : Nat) (js : List (xK d)) (jd : xK d) : xK d := fun h c ls st => xpop st (fun v st => xint v (fun a => xck (Nat.blt a 4294967296) (xif (Nat.blt a 2147483648) (h_table lo js jd h c ls (v :: st)) (jd h c ls st))))
section XTAB
variable {l : Launch} {Dg : va_G} {cl : List vw_C} {tys : List (ClassId × FieldType)} {cA fl : Nat → Nat} {ft : Nat → Nat → Nat} {base : Nat} {adS : Nat → Nat} {GW : List Cond}
variable {xy : Nat → MethodName} {xc : Nat → ByteArray} {xn : Nat → Nat} {xr : Nat → Option FieldType} {Ex : State → Heap → Prop} {d e : Nat} {code : xBT (xB d) e}
variable {K dl mi pc : Nat} {fs : List xF} {fin : xE d} {j j' : xK d}
theorem s_tablen {lo : Nat} {dflt hi : Int} {offs : Array Int} {len td : Nat} {js : List (xK d)} {jd : xK d} (hd : decode (xc mi) pc = .ok (.tableswitch dflt (lo : Int) hi offs, len)) (hlo : lo < 2147483648) (hhi : hi = (lo : Int) + js.length - 1) (hjl : js.length < 1000000) (ht : (pc : Int) + dflt = (td : Int)) (hjd : xSK l Dg cl tys cA fl ft base adS GW xy xc xn xr Ex code K dl fs fin mi td jd)
    (hjs : ∀ i, i < js.length → ∃ (off : Int) (tgt : Nat), offs[i]? = some off ∧ (pc : Int) + off = (tgt : Int) ∧ xSK l Dg cl tys cA fl ft base adS GW xy xc xn xr Ex code K dl fs fin mi tgt (js.getD i jd)) : xSK l Dg cl tys cA fl ft base adS GW xy xc xn xr Ex code K dl fs fin mi pc (h_tablen lo js jd) := by
  intro h c ls st hh
  obtain ⟨v, t, rfl, hh1⟩ := xpop_s hh
  obtain ⟨a, rfl, hh0⟩ := xint_s hh1
  obtain ⟨q0, hh2⟩ := xck_s hh0
  have q0 := (blt_iff _ _).mp q0
  rcases xif_or hh2 with ⟨z1, z2⟩ | ⟨z1, z2⟩
  · exact s_table hd hlo hhi hjl ht hjd hjs h c ls _ z2
  · have z1 : ¬ a < 2147483648 := by rw [← blt_iff, z1]; exact Bool.noConfusion
    obtain ⟨r, h', c', l1, l2, l3, l4, w⟩ := hjd h c ls t z2
    refine ⟨r, h', c', l1, l2, l3, l4, ?_⟩
    intro p e R s m args below meth cd H locs lsA cells slots mc ms X N g1 g2 g3 g4
    refine lv_tableOut X.1 X.2.1 hd (Or.inl ?_) ht (w p e R s m args below meth cd H locs lsA cells slots mc ms X N g1 g2 g3 g4)
    rw [xn_toInt]
    omega
theorem m_tablen {lo : Nat} {js js' : List (xK d)} (h : xJm fin js js') (hj : xKm fin j j') : xKm fin (h_tablen lo js j) (h_tablen lo js' j') := fun hp c ls st => m_xpop (st := st) fun v st => m_xint (v := v) fun _ => m_xck (m_xif (m_table h hj hp c ls (v :: st)) (hj hp c ls st))
end XTAB

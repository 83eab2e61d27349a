/-! A row copied into a row; a text's own methods. -/
theorem xmod_dig {B : Nat} (hB : 0 < B) (X Y : Nat) {i m : Nat} (h : i < m) : (X % B ^ m + Y * B ^ m) / B ^ i % B = X / B ^ i % B := by
  obtain ⟨q, rfl⟩ : ∃ q, m = i + (q + 1) := ⟨m - i - 1, by omega⟩
  have e : B ^ (i + (q + 1)) = B ^ i * (B * B ^ q) := by rw [Nat.pow_add, Nat.pow_succ, Nat.mul_comm (B ^ q)]
  have hP : 0 < B ^ i := Nat.pow_pos hB
  have g : ∀ z lo : Nat, (lo + z * B ^ (i + (q + 1))) / B ^ i % B = lo / B ^ i % B := by
    intro z lo
    rw [e, show z * (B ^ i * (B * B ^ q)) = B ^ i * (B * (z * B ^ q)) by rw [Nat.mul_left_comm, Nat.mul_left_comm z], Nat.add_comm, Nat.mul_add_div hP, Nat.mul_add_mod]
  rw [g]
  have h2 := g (X / B ^ (i + (q + 1))) (X % B ^ (i + (q + 1)))
  rw [Nat.mul_comm (X / B ^ (i + (q + 1))), Nat.mod_add_div] at h2
  exact h2.symm
/-- digits sp .. of S put at dp .. of A, m of them -/
noncomputable def xcp (w B S A sp dp m : Nat) : Nat := Nat.add (Nat.mod A (Nat.pow B dp)) (Nat.mul (Nat.add (Nat.mod (Nat.shiftRight S (Nat.mul w sp)) (Nat.pow B m)) (Nat.mul (Nat.shiftRight A (Nat.mul w (Nat.add dp m))) (Nat.pow B m))) (Nat.pow B dp))
theorem xcp_dig {w B : Nat} (hB : B = 2 ^ w) (S A sp dp m j : Nat) : xdg w B (xcp w B S A sp dp m) j = if dp ≤ j ∧ j < dp + m then xdg w B S (sp + (j - dp)) else xdg w B A j := by
  have hB0 : 0 < B := by rw [hB]; exact Nat.pow_pos (by decide)
  have e1 : ∀ (X q : Nat), X >>> (w * q) = X / B ^ q := fun X q => by rw [Nat.shiftRight_eq_div_pow, Nat.pow_mul, ← hB]
  have e : xcp w B S A sp dp m = A % B ^ dp + ((S / B ^ sp) % B ^ m + A / B ^ (dp + m) * B ^ m) * B ^ dp := by
    show A % B ^ dp + ((S >>> (w * sp)) % B ^ m + (A >>> (w * (dp + m))) * B ^ m) * B ^ dp = _
    rw [e1, e1]
  rw [xdg_eq hB, xdg_eq hB, xdg_eq hB, e]
  rcases Nat.lt_or_ge j dp with h | h
  · rw [if_neg (by omega), xmod_dig hB0 _ _ h]
  · obtain ⟨i, rfl⟩ : ∃ i, j = dp + i := ⟨j - dp, by omega⟩
    have hP : 0 < B ^ dp := Nat.pow_pos hB0
    have hlo : A % B ^ dp < B ^ dp := Nat.mod_lt _ hP
    have key : ∀ Z : Nat, (A % B ^ dp + Z * B ^ dp) / B ^ (dp + i) = Z / B ^ i := by
      intro Z
      rw [Nat.pow_add, ← Nat.div_div_eq_div_mul, Nat.add_comm, Nat.mul_comm Z, Nat.mul_add_div hP, Nat.div_eq_of_lt hlo, Nat.add_zero]
    rw [key]
    rcases Nat.lt_or_ge i m with h2 | h2
    · rw [if_pos ⟨by omega, by omega⟩, xmod_dig hB0 _ _ h2, Nat.div_div_eq_div_mul, ← Nat.pow_add, show dp + i - dp = i by omega]
    · rw [if_neg (by omega)]
      obtain ⟨u, rfl⟩ : ∃ u, i = m + u := ⟨i - m, by omega⟩
      have hQ : 0 < B ^ m := Nat.pow_pos hB0
      have hlo2 : (S / B ^ sp) % B ^ m < B ^ m := Nat.mod_lt _ hQ
      have key2 : ∀ Z : Nat, ((S / B ^ sp) % B ^ m + Z * B ^ m) / B ^ (m + u) = Z / B ^ u := by
        intro Z
        rw [Nat.pow_add, ← Nat.div_div_eq_div_mul, Nat.add_comm, Nat.mul_comm Z, Nat.mul_add_div hQ, Nat.div_eq_of_lt hlo2, Nat.add_zero]
      rw [key2, Nat.div_div_eq_div_mul, ← Nat.pow_add, Nat.add_assoc]
noncomputable def xcp4 (S A sp dp m : Nat) : Nat := Nat.succ (xcp 32 4294967296 S A (Nat.succ sp) (Nat.succ dp) m)
theorem xcp4_s {S A : Nat} (sp dp m j : Nat) (h : xok4 A = true) : xd4 (xcp4 S A sp dp m) j = if dp ≤ j ∧ j < dp + m then xd4 S (sp + (j - dp)) else xd4 A j := by
  have h : Nat.ble (A % 4294967296 + 1) 4294967295 = true := h
  rw [Nat.ble_eq] at h
  have hB : (4294967296 : Nat) = 2 ^ 32 := by decide +kernel
  have h0 := xcp_dig hB S A (sp + 1) (dp + 1) m 0
  rw [if_neg (by omega), xdg_eq hB, xdg_eq hB, Nat.pow_zero, Nat.div_one, Nat.div_one] at h0
  show xdg 32 4294967296 (xcp 32 4294967296 S A (sp + 1) (dp + 1) m + 1) (j + 1) = _
  rw [xdg_succ hB (by rw [h0]; omega), xcp_dig hB]
  by_cases hj : dp ≤ j ∧ j < dp + m
  · rw [if_pos hj, if_pos (by omega), show sp + 1 + (j + 1 - (dp + 1)) = (sp + (j - dp)) + 1 by omega]
    rfl
  · rw [if_neg hj, if_neg (by omega)]
    rfl
/-- the digits from i on, m of them, are bytes -/
noncomputable def xbys (A : Nat) (m : Nat) : Nat → Bool := Nat.rec (motive := fun _ => Nat → Bool) (fun _ => true) (fun _ ih i => xif (xif (Nat.blt (xd4 A i) 128) true (Nat.ble 4294967168 (xd4 A i))) (ih (Nat.succ i)) false) m
theorem xd4_lt (A i : Nat) : xd4 A i < 4294967296 := xdg_lt (by decide +kernel) A (i + 1)
theorem xfit_byte {v : Nat} (hv : v < 4294967296) (h : v < 128 ∨ 4294967168 ≤ v) : fits .byte (.int (nI v)) = true := by
  have e : nI v = (nI v).toInt8.toInt32 := by
    rw [xn_byte]
    apply Int32.toInt_inj.mp
    show _ = (nI (xif (Nat.ble 128 (v % 256)) (v % 256 + 4294967040) (v % 256))).toInt
    rw [xn_toInt, xn_toInt]
    by_cases q : 128 ≤ v % 256
    · rw [Nat.ble_eq_true_of_le q]
      show _ = (((v % 256 + 4294967040 + 2147483648) % 4294967296 : Nat) : Int) - 2147483648
      omega
    · rw [show Nat.ble 128 (v % 256) = false by rw [← Bool.not_eq_true, Nat.ble_eq]; exact q]
      show _ = (((v % 256 + 2147483648) % 4294967296 : Nat) : Int) - 2147483648
      omega
  rw [e]
  exact pk_fb _
theorem xbys_s {A : Nat} : ∀ {m i : Nat}, xbys A m i = true → ∀ q, q < m → fits .byte (.int (nI (xd4 A (i + q)))) = true
  | 0, i, h, q, hq => absurd hq (Nat.not_lt_zero q)
  | m + 1, i, h, q, hq => by
    have h : xif (xif (Nat.blt (xd4 A i) 128) true (Nat.ble 4294967168 (xd4 A i))) (xbys A m (i + 1)) false = true := h
    rcases xif_or h with ⟨h1, h2⟩ | ⟨h1, h2⟩
    · cases q with
      | zero =>
        refine xfit_byte (xd4_lt A i) ?_
        rcases xif_or h1 with ⟨z, -⟩ | ⟨-, z⟩
        · exact Or.inl ((blt_iff _ _).mp z)
        · rw [Nat.ble_eq] at z
          exact Or.inr z
      | succ q =>
        have h3 := xbys_s h2 q (by omega)
        rw [show i + (q + 1) = i + 1 + q by omega]
        exact h3
    · cases h2
noncomputable def h_copy {d : Nat} (kc : Nat) (t : Nat → Nat → Nat → Bool) (k : xK d) : xK d := fun h c ls st => xpop st (fun w5 st => xpop st (fun w4 st => xpop st (fun w3 st => xpop st (fun w2 st => xpop st (fun w1 st => xint w5 (fun m => xint w4 (fun dp => xobj w3 (fun q => xint w2 (fun sp => xobj w1 (fun p => xsmall 8 st (xck (Nat.blt q (Prod.fst c)) (xck (Nat.blt p (Prod.fst c)) (xrow kc (xget d h p) (fun ns S => xrow kc (xget d h q) (fun na A => xck (Nat.ble (Nat.add sp m) ns) (xck (Nat.ble (Nat.add dp m) na) (xck (Nat.blt ns 2147483648) (xck (Nat.blt na 2147483648) (xck (t S m sp) (xck (xok4 A) (xst (xcp4 S A sp dp m) (fun B => xsetK d h q (kc, (na, B)) (fun h => k h c ls st)))))))))))))))))))))))
section XCPY
variable {l : Launch} {Dg : va_G} {cl : List vw_C} {tys : List (ClassId × FieldType)} {cA fl : Nat → Nat} {ft : Nat → Nat → Nat} {base : Nat} {adS : Nat → Nat} {GW : List Cond}
variable {xy : Nat → MethodName} {xc : Nat → ByteArray} {xn : Nat → Nat} {xr : Nat → Option FieldType} {Ex : State → Heap → Prop} {d e : Nat} {code : xBT (xB d) e} {bm bp : Nat → Nat}
variable {K n dl mi pc nS : Nat} {fs : List xF} {fin : xE d} {j k : xK d} {TT : xBT (Nat × Nat) 5}
theorem xNow.putL {s : State} {H H1 : Heap} {locs locs1 : List Loc} {lsA : Array Slot} {nL N q : Nat} {ls : List xO} {h : xBT xC d} {c1 : xC} {e1 : va_E} (hd9 : 2 ^ d ≤ 1000) (hN : xNow Dg cl cA fl ft base adS d h N nL ls s H locs lsA) (hq : q < N) (he : e1 = xcell (xad base adS) cA fl ft c1) (hat : va_at Dg cl (xad base adS q, e1) H1) (hz : H1.size = H.size) (oq : ∀ p : Nat, p ≠ xad base adS q → H1[p]? = H[p]?) (hl : ∀ z ∈ locs1, z ∈ locs ∨ z.base = xad base adS q) :
    xNow Dg cl cA fl ft base adS d (xset d h q c1) N nL ls s H1 locs1 lsA := by
  obtain ⟨n1, n2, n3, n4, n5⟩ := hN.put (i := 0) hd9 hq he hat hz oq
  refine ⟨n1, n2, n3, ⟨n4.1, n4.2.1, fun z hz => ?_⟩, n5⟩
  rcases hl z hz with y | y
  · exact n4.2.2 z (List.mem_append_left _ y)
  · exact n4.2.2 ⟨xad base adS q, 0⟩ (List.mem_append_right _ (List.mem_singleton.mpr rfl)) |> fun w => by
      show base ≤ z.base
      rw [y]
      exact w
theorem s_copy {kd t0 index : Nat} {ty : FieldType} {tst : Nat → Nat → Nat → Bool} (hd9 : 2 ^ d ≤ 1000) (hkd : ∀ u : Nat × Nat, xcell (xad base adS) cA fl ft (kd, u) = .inl (cA kd, (u.1, .inl (fun i => nI (xd4 u.2 i))))) (ht : tys[t0]? = some (cA kd, ty)) (hprim : refKind ty = false) (hfit : ∀ S m sp, tst S m sp = true → ∀ i, i < m → fits ty (.int (nI (xd4 S (sp + i)))) = true)
    (hw : Cond.methodLink (xy mi).cls index arraycopyName ∈ GW ∧ Cond.native arraycopyName ∈ GW ∧ Cond.static arraycopyName ∈ GW ∧ Cond.initialized "java/lang/System" ∈ GW) (hd : decode (xc mi) pc = .ok (.invokestatic index, 3)) (hk : xSK l Dg cl tys cA fl ft base adS GW xy xc xn xr Ex code K dl fs fin mi (pc + 3) k) : xSK l Dg cl tys cA fl ft base adS GW xy xc xn xr Ex code K dl fs fin mi pc (h_copy kd tst k) := by
  refine xSK.cell hk fun h c ls st hh => ?_
  obtain ⟨w5, t, rfl, hh1⟩ := xpop_s hh
  obtain ⟨w4, t, rfl, hh2⟩ := xpop_s hh1
  obtain ⟨w3, t, rfl, hh3⟩ := xpop_s hh2
  obtain ⟨w2, t, rfl, hh4⟩ := xpop_s hh3
  obtain ⟨w1, t, rfl, hh5⟩ := xpop_s hh4
  obtain ⟨m, rfl, hh6⟩ := xint_s hh5
  obtain ⟨dp, rfl, hh7⟩ := xint_s hh6
  obtain ⟨q, rfl, hh8⟩ := xobj_s hh7
  obtain ⟨sp, rfl, hh9⟩ := xint_s hh8
  obtain ⟨p0, rfl, hh10⟩ := xobj_s hh9
  obtain ⟨hsm, hh11⟩ := xsmall_s (ad := xad base adS) hh10
  obtain ⟨q1, hh12⟩ := xck_s hh11
  obtain ⟨q2, hh13⟩ := xck_s hh12
  obtain ⟨ns, S, hcS, hh14⟩ := xrow_s hh13
  obtain ⟨na, A, hcA, hh15⟩ := xrow_s hh14
  obtain ⟨q3, hh16⟩ := xck_s hh15
  obtain ⟨q4, hh17⟩ := xck_s hh16
  obtain ⟨q5, hh18⟩ := xck_s hh17
  obtain ⟨q6, hh19⟩ := xck_s hh18
  obtain ⟨q7, hh20⟩ := xck_s hh19
  obtain ⟨q8, hh21⟩ := xck_s hh20
  rw [xst_eq, xsetK_eq] at hh21
  have q1 := (blt_iff _ _).mp q1
  have q2 := (blt_iff _ _).mp q2
  rw [Nat.ble_eq] at q3 q4
  have q3 : sp + m ≤ ns := q3
  have q4 : dp + m ≤ na := q4
  have q5 := (blt_iff _ _).mp q5
  have q6 := (blt_iff _ _).mp q6
  refine ⟨_, _, hh21, fun p e R s m0 args below meth cd H locs lsA cells slots Q X N1 w => ?_⟩
  obtain ⟨x1, x2, x3, x4, x5, x6, x7, x8, x9, x10, x11, x12, x13⟩ := id X
  have ec : nI m = nI m := rfl
  have k1 := xn_clamp (a := sp) (by omega)
  have k2 := xn_clamp (a := dp) (by omega)
  have k3 := xn_clamp (a := m) (by omega)
  have i1 : (nI sp).toInt = (sp : Int) := nI_toInt (by omega)
  have i2 : (nI dp).toInt = (dp : Int) := nI_toInt (by omega)
  have i3 : (nI m).toInt = (m : Int) := nI_toInt (by omega)
  have hc0 : H[xad base adS p0]? = some (vp_cell (cA kd) (ns, .inl (fun i => nI (xd4 S i)))) := N1.2.2.1 p0 (xad base adS p0, .inl (cA kd, (ns, .inl (fun i => nI (xd4 S i))))) (by rw [xws_get q2, hcS, hkd])
  have hc1 : H[xad base adS q]? = some (vp_cell (cA kd) (na, .inl (fun i => nI (xd4 A i)))) := N1.2.2.1 q (xad base adS q, .inl (cA kd, (na, .inl (fun i => nI (xd4 A i))))) (by rw [xws_get q1, hcA, hkd])
  obtain ⟨-, k0, hk0, cm0, hkk0⟩ := (x9.2 t0 _ ht).1 ns (fun j => .int (nI (xd4 S j)))
  have h9 : nativeFrameWords "java/lang/System" "arraycopy" 5 ≤ 50 := by decide +kernel
  have hloc : 2 * 0 + ((t.map (xval (xad base adS))).map fun v => v.category).sum + (nativeFrameWords "java/lang/System" "arraycopy" 5 + 11) ≤ R.locals := by
    rw [Nat.mul_zero, Nat.zero_add]
    exact Nat.le_trans (Nat.add_le_add hsm (Nat.add_le_add_right h9 11)) (Nat.le_trans (by omega) x13)
  intro T hT X0
  obtain ⟨vm', X', step⟩ := X0.arraycopy x1 x6 (x8 _ hw.1) (x8 _ hw.2.1) (x8 _ hw.2.2.1) (x8 _ hw.2.2.2) (src := xad base adS p0) (dst := xad base adS q) (cs := vp_cell (cA kd) (ns, .inl (fun i => nI (xd4 S i)))) (cd := vp_cell (cA kd) (na, .inl (fun i => nI (xd4 A i)))) (srcPos := nI sp) (destPos := nI dp) (n := nI m) (by rw [hT]; exact hc0) (by rw [hT]; exact hc1)
    (fun _ h => by cases h) (fun _ h => by cases h) (fun h => by cases h) (fun h => by cases h) hk0 hk0 hkk0 hkk0 (by simp [hprim]) (nI_pos (by omega)) (nI_pos (by omega)) (nI_pos (by omega))
    (by rw [i1, i3]; show ¬ _ > ((arrV (cA kd) ns (fun j => .int (nI (xd4 S j)))).slots.size : Int); rw [arrV_size]; omega)
    (by rw [i2, i3]; show ¬ _ > ((arrV (cA kd) na (fun j => .int (nI (xd4 A j)))).slots.size : Int); rw [arrV_size]; omega)
    (fun vm₁ _ i hi => by
      rw [k3] at hi
      have e : (vp_cell (cA kd) (ns, .inl (fun i => nI (xd4 S i)))).slots.getD ((nI sp).toNatClampNeg + i) .null = .int (nI (xd4 S (sp + i))) := by
        rw [k1]
        show (arrV (cA kd) ns (fun j => .int (nI (xd4 S j)))).slots.getD _ _ = _
        rw [Array.getD_eq_getD_getElem?, arrV_read _ _ (by omega)]
        rfl
      rw [e]
      exact ⟨hfit S m sp q7 i hi, trivial⟩)
    (g := F0 m0 pc lsA _) rfl (by rw [x4]; exact N1.2.2.2.2.2.1) (rest := t.map (xval (xad base adS))) rfl (by rw [x2]; exact hd) (by omega) hloc
  have e1 : copied (vp_cell (cA kd) (ns, .inl (fun i => nI (xd4 S i)))) (vp_cell (cA kd) (na, .inl (fun i => nI (xd4 A i)))) (nI sp) (nI dp) (nI m) = vp_cell (cA kd) (na, .inl (fun i => nI (xd4 (xcp4 S A sp dp m) i))) := by
    have e0 : copied (vp_cell (cA kd) (ns, .inl (fun i => nI (xd4 S i)))) (vp_cell (cA kd) (na, .inl (fun i => nI (xd4 A i)))) (nI sp) (nI dp) (nI m) = vp_cell (cA kd) (na, .inl (va_cpy (fun i => nI (xd4 S i)) (fun i => nI (xd4 A i)) (nI sp).toNatClampNeg (nI dp).toNatClampNeg (nI m).toNatClampNeg)) := va_copied (fun z => .int z) (cA kd) (cA kd) (fun i => nI (xd4 S i)) (fun i => nI (xd4 A i)) (by rw [k1, k3]; exact q3)
    rw [e0, k1, k2, k3]
    refine congrArg (fun f => vp_cell (cA kd) (na, .inl f)) (funext fun y => ?_)
    rw [xcp4_s sp dp m y q8]
    unfold va_cpy
    by_cases hy : dp ≤ y ∧ y < dp + m
    · rw [if_pos hy, if_pos hy]
    · rw [if_neg hy, if_neg hy]
  rw [e1] at X' step
  have hl : xad base adS q < H.size := (Array.getElem?_eq_some_iff.mp hc1).1
  obtain ⟨t2, a1, b1⟩ := w (H.setIfInBounds (xad base adS q) (vp_cell (cA kd) (na, .inl (fun i => nI (xd4 (xcp4 S A sp dp m) i))))) _ (N1.putL hd9 q1 (e1 := .inl (cA kd, (na, .inl (fun i => nI (xd4 (xcp4 S A sp dp m) i))))) (c1 := (kd, (na, xcp4 S A sp dp m))) (hkd (na, xcp4 S A sp dp m)).symm (show (H.setIfInBounds _ _)[_]? = some _ by simp [Array.getElem?_setIfInBounds, hl]) (by simp) (fun y hy => by simp [Array.getElem?_setIfInBounds, Ne.symm hy]) (fun z hz => by
      rcases List.mem_append.mp hz with y | y
      · exact Or.inl y
      · obtain ⟨o, -, ho⟩ := List.mem_map.mp y
        exact Or.inr (by rw [← ho]))) _ (by rw [← hT]; rfl) X'
  exact ⟨t2, step t2 a1, b1⟩
theorem s_callt {b0 b1 nA m2 index : Nat} {pads : List xO} (hI : xIH l Dg cl tys cA fl ft base adS GW xy xc xn xr Ex code bm bp (n + 1)) (hEk : ∀ (U : State) (H H1 : Heap), Ex U H → (∀ a, a < H.size → ¬ base ≤ a → H1[a]? = H[a]?) → Ex U H1) (hEm : ∀ (u U : State) (H : Heap), u.WarmedH U.vm → Ex u H → Ex U H) (hEv : ∀ (u U : State) (H : Heap), U.vm = u.vm → Ex u H → Ex U H) (hG : ∀ w ∈ GW, (w.onTables && w.keeps) = true ∨ ∃ ty, w = .arrayClass ty) (hTx : ∀ s : State, Ex s s.heap → xTxt base adS TT nS s)
    (e0 : bm b0 = m2 ∧ bp b0 = 0) (e1 : bm b1 = mi ∧ bp b1 = pc + 3) (hp : pads = List.replicate (xn m2 - (nA + 1)) none) (hn : nA + 1 ≤ xn m2 ∧ xn m2 ≤ 45) (hS : xSite GW (xy mi).cls index (xy m2) (xc m2) (xn m2) (xr m2) nA) (hst : Cond.instanceMethod (xy m2) ∈ GW ∧ Cond.selects "java/lang/String" (xy m2) (xy m2) ∈ GW)
    (hd : decode (xc mi) pc = .ok (.invokevirtual index, 3)) : xSK l Dg cl tys cA fl ft base adS GW xy xc xn xr Ex code (n + 1) dl fs fin mi pc (h_callt b0 b1 nA nS pads dl fs (xrun code n)) := by
  subst hp
  intro h c ls st hh
  obtain ⟨As, st1, v1, v2, v3, hh1⟩ := xargs_s hh
  obtain ⟨v, st', q1, hh2⟩ := xpop_s hh1
  obtain ⟨o, q2, hh3⟩ := xobj_s hh2
  obtain ⟨jt, q3, q4, hh5⟩ := xtx_s hh3
  subst q4
  obtain ⟨hsm, hh6⟩ := xsmall_s (ad := xad base adS) hh5
  cases dl with
  | zero => cases hh6
  | succ dl =>
    have hh7 : xrun code n (h, (c, (dl, ((b0, ((v :: As).map some ++ List.replicate (xn m2 - (nA + 1)) none, [])), (b1, (ls, st')) :: fs)))) = some fin := hh6
    obtain ⟨r1, h1, c1, l1, l2, l3, ⟨k, hk, hrun⟩, w1⟩ := hI n (Nat.lt_succ_self n) b0 h c dl _ [] _ fin hh7
    rw [xpush_eq] at hrun
    obtain ⟨r, h2, c2, k1, k2, k3, k4, w2⟩ := hI k (by omega) b1 h1 c1 (dl + 1) ls (r1.toList ++ st') fs fin hrun
    rw [e0.1, e0.2] at w1
    rw [e1.1, e1.2] at w2
    refine ⟨r, h2, c2, Nat.le_trans l1 k1, Nat.le_trans l2 k2, fun q => k3 (l3 q), k4.mono (by omega), ?_⟩
    intro p e R s m args below meth cd H locs lsA cells slots mc ms X N g1 g2 g3 g4
    have vl : (v :: As).length = nA + 1 := by rw [List.length_cons, v1]
    rw [← vl] at w1
    have hM := xMet (mi := m2) (vs := v :: As) (c := c) (c' := c1) hS.2.2.2.2.2 (fun w hw => by
      rcases List.mem_cons.mp hw with z | z
      · rw [z, q2]; rfl
      · exact v3 w z) (by rw [vl]; exact hn.1) N.2.1 w1
    have hO := (hTx s X.2.2.2.2.2.2.2.2.2.1 jt q3).1.kept N.2.2.2.1.2.1
    have hrec : ∃ cell : Cell, H[xad base adS (1000 + jt)]? = some cell ∧ cell.vm.isStatics = false ∧ s.vm.findClass "java/lang/String" = some cell.cls := by
      obtain ⟨cell, o1, o2, o3, -⟩ := hO
      exact ⟨cell, by rw [xad_ex]; exact o1, o2, o3⟩
    have hR := va_runV (As := As.map (xval (xad base adS))) (b := xad base adS (1000 + jt)) (C := "java/lang/String") (rest := st'.map (xval (xad base adS))) (g := F0 m pc lsA (st.map (xval (xad base adS)))) (cc := xc mi) (nL := xn mi) (cells := cells) (slots := slots) (H := H) (locs := locs) (below := below) (meth := meth) (c := cd) (p := p) (e := e) (m := m)
      ⟨X.1, X.2.1, X.2.2.2.1, X.2.2.2.2.2.1, X.2.2.2.2.2.2.2.1⟩ hM ⟨xCallB hG X hS hn.2, X.2.2.2.2.2.2.2.1 _ hst.1, X.2.2.2.2.2.2.2.1 _ hst.2⟩ ⟨xWd_blind hEv, hrec, fun U hU hW => ⟨by rw [q2]; rfl, xWd_of hEk hEm X N U hU hW⟩⟩ rfl (by rw [List.length_map]; exact v1) N.2.2.2.2.2.1 (by rw [v2, q1, q2, List.map_append, List.map_reverse]; rfl) (lv_room hsm) hd ⟨by omega, by omega⟩
    refine x_after hR N (l3 N.2.1) fun H1 locs1 N1 => ?_
    have hw := w2 p e R s m args below meth cd H1 locs1 lsA (cells + (c1.1 - c.1)) (slots + (c1.2 - c.2)) mc ms X N1 (by omega) (by omega) g3 g4
    rw [xmap_app] at hw
    exact hw
end XCPY

/-! The instructions, one by one: what the machine does, and that the walk does the same. -/
noncomputable def xcat1 {R : Type} (v : xV) (k : Option R) : Option R := Sum.rec (motive := fun _ => Option R) (fun _ => k) (fun u => Sum.rec (motive := fun _ => Option R) (fun _ => none) (fun _ => k) u) v
theorem xcat1_s {R : Type} {v : xV} {k : Option R} {x : R} (h : xcat1 v k = some x) : xlong v = false ∧ k = some x := by
  cases v with
  | inl n => exact ⟨rfl, h⟩
  | inr u =>
    cases u with
    | inl n => cases h
    | inr n => exact ⟨rfl, h⟩
noncomputable def h_iload {d : Nat} (i : Nat) (k : xK d) : xK d := fun h c ls st => xlg i ls (fun v => xint v (fun _ => k h c ls (v :: st)))
noncomputable def h_aload {d : Nat} (i : Nat) (k : xK d) : xK d := fun h c ls st => xlg i ls (fun v => xobj v (fun _ => k h c ls (v :: st)))
noncomputable def h_istore {d : Nat} (i : Nat) (k : xK d) : xK d := fun h c ls st => xpop st (fun v st => xint v (fun _ => xlp i ls v (fun ls => k h c ls st)))
noncomputable def h_astore {d : Nat} (i : Nat) (k : xK d) : xK d := fun h c ls st => xpop st (fun v st => xobj v (fun _ => xlp i ls v (fun ls => k h c ls st)))
noncomputable def h_iconst {d : Nat} (n : Nat) (k : xK d) : xK d := fun h c ls st => k h c ls (Sum.inl n :: st)
noncomputable def h_null {d : Nat} (k : xK d) : xK d := fun h c ls st => k h c ls (Sum.inr (Sum.inr 0) :: st)
noncomputable def h_iinc {d : Nat} (i a : Nat) (k : xK d) : xK d := fun h c ls st => xlg i ls (fun v => xint v (fun n => xst (Nat.mod (Nat.add n a) 4294967296) (fun m => xlp i ls (Sum.inl m) (fun ls => k h c ls st))))
noncomputable def h_bin {d : Nat} (f : Nat → Nat → Nat) (k : xK d) : xK d := fun h c ls st => xpop st (fun v st => xpop st (fun u st => xint v (fun b => xint u (fun a => xst (f a b) (fun m => k h c ls (Sum.inl m :: st))))))
noncomputable def h_divr {d : Nat} (f : Nat → Nat → Nat) (k : xK d) : xK d := fun h c ls st => xpop st (fun v st => xpop st (fun u st => xint v (fun b => xint u (fun a => xck (Nat.blt a 2147483648) (xck (Nat.blt b 2147483648) (xck (Nat.blt 0 b) (xst (f a b) (fun m => k h c ls (Sum.inl m :: st)))))))))
noncomputable def h_un {d : Nat} (f : Nat → Nat) (k : xK d) : xK d := fun h c ls st => xpop st (fun u st => xint u (fun a => xst (f a) (fun m => k h c ls (Sum.inl m :: st))))
noncomputable def h_dup {d : Nat} (k : xK d) : xK d := fun h c ls st => xpop st (fun v st => xcat1 v (k h c ls (v :: v :: st)))
noncomputable def h_dup2 {d : Nat} (k : xK d) : xK d := fun h c ls st => xpop st (fun v st => xpop st (fun u st => xcat1 v (xcat1 u (k h c ls (v :: u :: v :: u :: st)))))
noncomputable def h_pop {d : Nat} (k : xK d) : xK d := fun h c ls st => xpop st (fun v st => xcat1 v (k h c ls st))
noncomputable def h_if1 {d : Nat} (t : Nat → Bool) (j k : xK d) : xK d := fun h c ls st => xpop st (fun v st => xint v (fun a => xif (t a) (j h c ls st) (k h c ls st)))
noncomputable def h_if2 {d : Nat} (t : Nat → Nat → Bool) (j k : xK d) : xK d := fun h c ls st => xpop st (fun v st => xpop st (fun u st => xint v (fun b => xint u (fun a => xif (t a b) (j h c ls st) (k h c ls st)))))
noncomputable def f_add (a b : Nat) : Nat := Nat.mod (Nat.add a b) 4294967296
noncomputable def f_sub (a b : Nat) : Nat := Nat.mod (Nat.sub (Nat.add a 4294967296) (Nat.mod b 4294967296)) 4294967296
noncomputable def f_mul (a b : Nat) : Nat := Nat.mod (Nat.mul a b) 4294967296
noncomputable def f_neg (a : Nat) : Nat := Nat.mod (Nat.sub 4294967296 (Nat.mod a 4294967296)) 4294967296
noncomputable def f_byte (a : Nat) : Nat := xif (Nat.ble 128 (Nat.mod a 256)) (Nat.add (Nat.mod a 256) 4294967040) (Nat.mod a 256)
noncomputable def f_char (a : Nat) : Nat := Nat.mod a 65536
noncomputable def tq_eq (a b : Nat) : Bool := Nat.beq (xsg a) (xsg b)
noncomputable def xnot (b : Bool) : Bool := Bool.rec (motive := fun _ => Bool) true false b
noncomputable def tq_ne (a b : Nat) : Bool := xnot (tq_eq a b)
noncomputable def tq_lt (a b : Nat) : Bool := Nat.blt (xsg a) (xsg b)
noncomputable def tq_ge (a b : Nat) : Bool := Nat.ble (xsg b) (xsg a)
noncomputable def tq_gt (a b : Nat) : Bool := Nat.blt (xsg b) (xsg a)
noncomputable def tq_le (a b : Nat) : Bool := Nat.ble (xsg a) (xsg b)
theorem blt_iff (a b : Nat) : Nat.blt a b = true ↔ a < b := by
  show Nat.ble (a + 1) b = true ↔ _
  rw [Nat.ble_eq]; omega
theorem tq_eq_s (a b : Nat) : tq_eq a b = true ↔ nI a = nI b := by
  rw [xn_eq]
  show Nat.beq (xsg a) (xsg b) = true ↔ _
  rw [Nat.beq_eq]
theorem xnot_s (b : Bool) : xnot b = true ↔ ¬ b = true := by
  cases b
  · exact ⟨fun _ h => Bool.noConfusion h, (fun _ => rfl)⟩
  · exact ⟨fun h => Bool.noConfusion h, (fun h => absurd rfl h)⟩
theorem tq_ne_s (a b : Nat) : tq_ne a b = true ↔ ¬ nI a = nI b := by
  rw [← tq_eq_s]
  unfold tq_ne
  exact xnot_s (tq_eq a b)
theorem tq_lt_s (a b : Nat) : tq_lt a b = true ↔ nI a < nI b := by rw [xn_lt]; exact blt_iff _ _
theorem tq_ge_s (a b : Nat) : tq_ge a b = true ↔ nI b ≤ nI a := by
  rw [xn_le]
  show Nat.ble (xsg b) (xsg a) = true ↔ _
  rw [Nat.ble_eq]
theorem tq_gt_s (a b : Nat) : tq_gt a b = true ↔ nI b < nI a := by rw [xn_lt]; exact blt_iff _ _
theorem tq_le_s (a b : Nat) : tq_le a b = true ↔ nI a ≤ nI b := by
  rw [xn_le]
  show Nat.ble (xsg a) (xsg b) = true ↔ _
  rw [Nat.ble_eq]
section XO
variable {l : Launch} {Dg : va_G} {cl : List vw_C} {tys : List (ClassId × FieldType)} {cA fl : Nat → Nat} {ft : Nat → Nat → Nat} {base : Nat} {adS : Nat → Nat} {GW : List Cond}
variable {xy : Nat → MethodName} {xc : Nat → ByteArray} {xn : Nat → Nat} {xr : Nat → Option FieldType} {Ex : State → Heap → Prop} {d e : Nat} {code : xBT (xB d) e}
variable {K dl mi pc : Nat} {fs : List xF} {fin : xE d} {j k : xK d}
theorem s_iload_n {i : Nat} {q : Fin 4} (hi : (q : Nat) = i) (hd : decode (xc mi) pc = .ok (.iload_n q, 1)) (hk : xSK l Dg cl tys cA fl ft base adS GW xy xc xn xr Ex code K dl fs fin mi (pc + 1) k) :
    xSK l Dg cl tys cA fl ft base adS GW xy xc xn xr Ex code K dl fs fin mi pc (h_iload i k) := by
  refine hk.pure fun h c ls st hh => ?_
  obtain ⟨v, h1, hh1⟩ := xlg_s hh
  obtain ⟨n, rfl, hh2⟩ := xint_s hh1
  exact ⟨_, _, hh2, fun p e R s m args below meth cd H locs lsA cells slots Q X N w => lv_iload_n X.1 X.2.1 hd hi (xL_at N.2.2.2.2 h1 rfl) (w lsA N.2.2.2.2)⟩
theorem s_iload {i : Nat} (hd : decode (xc mi) pc = .ok (.iload i, 2)) (hk : xSK l Dg cl tys cA fl ft base adS GW xy xc xn xr Ex code K dl fs fin mi (pc + 2) k) :
    xSK l Dg cl tys cA fl ft base adS GW xy xc xn xr Ex code K dl fs fin mi pc (h_iload i k) := by
  refine hk.pure fun h c ls st hh => ?_
  obtain ⟨v, h1, hh1⟩ := xlg_s hh
  obtain ⟨n, rfl, hh2⟩ := xint_s hh1
  exact ⟨_, _, hh2, fun p e R s m args below meth cd H locs lsA cells slots Q X N w => lv_iload X.1 X.2.1 hd (xL_at N.2.2.2.2 h1 rfl) (w lsA N.2.2.2.2)⟩
theorem s_aload_n {i : Nat} {q : Fin 4} (hi : (q : Nat) = i) (hd : decode (xc mi) pc = .ok (.aload_n q, 1)) (hk : xSK l Dg cl tys cA fl ft base adS GW xy xc xn xr Ex code K dl fs fin mi (pc + 1) k) :
    xSK l Dg cl tys cA fl ft base adS GW xy xc xn xr Ex code K dl fs fin mi pc (h_aload i k) := by
  refine hk.pure fun h c ls st hh => ?_
  obtain ⟨v, h1, hh1⟩ := xlg_s hh
  obtain ⟨n, rfl, hh2⟩ := xobj_s hh1
  exact ⟨_, _, hh2, fun p e R s m args below meth cd H locs lsA cells slots Q X N w => lv_aload_n X.1 X.2.1 hd hi (xL_at N.2.2.2.2 h1 rfl) (w lsA N.2.2.2.2)⟩
theorem s_aload {i : Nat} (hd : decode (xc mi) pc = .ok (.aload i, 2)) (hk : xSK l Dg cl tys cA fl ft base adS GW xy xc xn xr Ex code K dl fs fin mi (pc + 2) k) :
    xSK l Dg cl tys cA fl ft base adS GW xy xc xn xr Ex code K dl fs fin mi pc (h_aload i k) := by
  refine hk.pure fun h c ls st hh => ?_
  obtain ⟨v, h1, hh1⟩ := xlg_s hh
  obtain ⟨n, rfl, hh2⟩ := xobj_s hh1
  exact ⟨_, _, hh2, fun p e R s m args below meth cd H locs lsA cells slots Q X N w => lv_aload X.1 X.2.1 hd (xL_at N.2.2.2.2 h1 rfl) (w lsA N.2.2.2.2)⟩
theorem s_istore_n {i : Nat} {q : Fin 4} (hi : (q : Nat) = i) (hd : decode (xc mi) pc = .ok (.istore_n q, 1)) (hk : xSK l Dg cl tys cA fl ft base adS GW xy xc xn xr Ex code K dl fs fin mi (pc + 1) k) :
    xSK l Dg cl tys cA fl ft base adS GW xy xc xn xr Ex code K dl fs fin mi pc (h_istore i k) := by
  refine hk.pure fun h c ls st hh => ?_
  obtain ⟨v, t, rfl, hh1⟩ := xpop_s hh
  obtain ⟨n, rfl, hh2⟩ := xint_s hh1
  obtain ⟨h1, hh3⟩ := xlp_s hh2
  exact ⟨_, _, hh3, fun p e R s m args below meth cd H locs lsA cells slots Q X N w => lv_istore_n X.1 X.2.1 hd hi N.2.2.2.2.2 (by rw [← N.2.2.2.2.1]; exact h1) rfl (fun ls' hl => w ls' (xL_put N.2.2.2.2.1 (by rw [← N.2.2.2.2.1]; exact h1) rfl hl))⟩
theorem s_istore {i : Nat} (hd : decode (xc mi) pc = .ok (.istore i, 2)) (hk : xSK l Dg cl tys cA fl ft base adS GW xy xc xn xr Ex code K dl fs fin mi (pc + 2) k) :
    xSK l Dg cl tys cA fl ft base adS GW xy xc xn xr Ex code K dl fs fin mi pc (h_istore i k) := by
  refine hk.pure fun h c ls st hh => ?_
  obtain ⟨v, t, rfl, hh1⟩ := xpop_s hh
  obtain ⟨n, rfl, hh2⟩ := xint_s hh1
  obtain ⟨h1, hh3⟩ := xlp_s hh2
  exact ⟨_, _, hh3, fun p e R s m args below meth cd H locs lsA cells slots Q X N w => lv_istore X.1 X.2.1 hd N.2.2.2.2.2 (by rw [← N.2.2.2.2.1]; exact h1) rfl (fun ls' hl => w ls' (xL_put N.2.2.2.2.1 (by rw [← N.2.2.2.2.1]; exact h1) rfl hl))⟩
theorem s_astore_n {i : Nat} {q : Fin 4} (hi : (q : Nat) = i) (hd : decode (xc mi) pc = .ok (.astore_n q, 1)) (hk : xSK l Dg cl tys cA fl ft base adS GW xy xc xn xr Ex code K dl fs fin mi (pc + 1) k) :
    xSK l Dg cl tys cA fl ft base adS GW xy xc xn xr Ex code K dl fs fin mi pc (h_astore i k) := by
  refine hk.pure fun h c ls st hh => ?_
  obtain ⟨v, t, rfl, hh1⟩ := xpop_s hh
  obtain ⟨n, rfl, hh2⟩ := xobj_s hh1
  obtain ⟨h1, hh3⟩ := xlp_s hh2
  exact ⟨_, _, hh3, fun p e R s m args below meth cd H locs lsA cells slots Q X N w => lv_astore_n X.1 X.2.1 hd hi N.2.2.2.2.2 (by rw [← N.2.2.2.2.1]; exact h1) rfl (fun ls' hl => w ls' (xL_put (v := .inr (.inr (n + 1))) N.2.2.2.2.1 (by rw [← N.2.2.2.2.1]; exact h1) rfl hl))⟩
theorem s_astore {i : Nat} (hd : decode (xc mi) pc = .ok (.astore i, 2)) (hk : xSK l Dg cl tys cA fl ft base adS GW xy xc xn xr Ex code K dl fs fin mi (pc + 2) k) :
    xSK l Dg cl tys cA fl ft base adS GW xy xc xn xr Ex code K dl fs fin mi pc (h_astore i k) := by
  refine hk.pure fun h c ls st hh => ?_
  obtain ⟨v, t, rfl, hh1⟩ := xpop_s hh
  obtain ⟨n, rfl, hh2⟩ := xobj_s hh1
  obtain ⟨h1, hh3⟩ := xlp_s hh2
  exact ⟨_, _, hh3, fun p e R s m args below meth cd H locs lsA cells slots Q X N w => lv_astore X.1 X.2.1 hd N.2.2.2.2.2 (by rw [← N.2.2.2.2.1]; exact h1) rfl (fun ls' hl => w ls' (xL_put (v := .inr (.inr (n + 1))) N.2.2.2.2.1 (by rw [← N.2.2.2.2.1]; exact h1) rfl hl))⟩
theorem s_iconst {n : Nat} {z : Int} (hz : (z % 4294967296).toNat = n) (hd : decode (xc mi) pc = .ok (.iconst z, 1)) (hk : xSK l Dg cl tys cA fl ft base adS GW xy xc xn xr Ex code K dl fs fin mi (pc + 1) k) :
    xSK l Dg cl tys cA fl ft base adS GW xy xc xn xr Ex code K dl fs fin mi pc (h_iconst n k) := by
  refine hk.pure fun h c ls st hh => ?_
  exact ⟨_, _, hh, fun p e R s m args below meth cd H locs lsA cells slots Q X N w => lv_iconst (v := nI n) X.1 X.2.1 hd (by rw [xn_ofInt, hz]) (w lsA N.2.2.2.2)⟩
theorem s_bipush {n : Nat} {z : Int} (hz : (Int8.ofInt z).toInt32 = nI n) (hd : decode (xc mi) pc = .ok (.bipush z, 2)) (hk : xSK l Dg cl tys cA fl ft base adS GW xy xc xn xr Ex code K dl fs fin mi (pc + 2) k) :
    xSK l Dg cl tys cA fl ft base adS GW xy xc xn xr Ex code K dl fs fin mi pc (h_iconst n k) := by
  refine hk.pure fun h c ls st hh => ?_
  exact ⟨_, _, hh, fun p e R s m args below meth cd H locs lsA cells slots Q X N w => lv_bipush (v := nI n) X.1 X.2.1 hd hz (w lsA N.2.2.2.2)⟩
theorem s_sipush {n : Nat} {z : Int} (hz : (Int16.ofInt z).toInt32 = nI n) (hd : decode (xc mi) pc = .ok (.sipush z, 3)) (hk : xSK l Dg cl tys cA fl ft base adS GW xy xc xn xr Ex code K dl fs fin mi (pc + 3) k) :
    xSK l Dg cl tys cA fl ft base adS GW xy xc xn xr Ex code K dl fs fin mi pc (h_iconst n k) := by
  refine hk.pure fun h c ls st hh => ?_
  exact ⟨_, _, hh, fun p e R s m args below meth cd H locs lsA cells slots Q X N w => lv_sipush (v := nI n) X.1 X.2.1 hd hz (w lsA N.2.2.2.2)⟩
theorem s_ldc {n : Nat} {index : Nat} {v : Int32} (hv : v = nI n) (hw : Cond.constant (xy mi).cls index v ∈ GW) (hd : decode (xc mi) pc = .ok (.ldc index, 2)) (hk : xSK l Dg cl tys cA fl ft base adS GW xy xc xn xr Ex code K dl fs fin mi (pc + 2) k) :
    xSK l Dg cl tys cA fl ft base adS GW xy xc xn xr Ex code K dl fs fin mi pc (h_iconst n k) := by
  subst hv
  refine hk.pure fun h c ls st hh => ?_
  exact ⟨_, _, hh, fun p e R s m args below meth cd H locs lsA cells slots Q X N w => lv_ldc X.1 X.2.1 X.2.2.2.2.2.1 (X.2.2.2.2.2.2.2.1 _ hw) hd (w lsA N.2.2.2.2)⟩
theorem s_null (hd : decode (xc mi) pc = .ok (.aconst_null, 1)) (hk : xSK l Dg cl tys cA fl ft base adS GW xy xc xn xr Ex code K dl fs fin mi (pc + 1) k) :
    xSK l Dg cl tys cA fl ft base adS GW xy xc xn xr Ex code K dl fs fin mi pc (h_null k) := by
  refine hk.pure fun h c ls st hh => ?_
  exact ⟨_, _, hh, fun p e R s m args below meth cd H locs lsA cells slots Q X N w => lv_null X.1 X.2.1 hd (w lsA N.2.2.2.2)⟩
theorem s_iinc {i a : Nat} {z : Int} (hz : (z % 4294967296).toNat = a) (hd : decode (xc mi) pc = .ok (.iinc i z, 3)) (hk : xSK l Dg cl tys cA fl ft base adS GW xy xc xn xr Ex code K dl fs fin mi (pc + 3) k) :
    xSK l Dg cl tys cA fl ft base adS GW xy xc xn xr Ex code K dl fs fin mi pc (h_iinc i a k) := by
  refine hk.pure fun h c ls st hh => ?_
  obtain ⟨v, h1, hh1⟩ := xlg_s hh
  obtain ⟨n, rfl, hh2⟩ := xint_s hh1
  rw [xst_eq] at hh2
  obtain ⟨h2, hh3⟩ := xlp_s hh2
  refine ⟨_, _, hh3, fun p e R s m args below meth cd H locs lsA cells slots Q X N w => ?_⟩
  obtain ⟨q, hq⟩ := xL_in N.2.2.2.2 h1 rfl
  exact lv_iinc (v := nI (Nat.mod (Nat.add n a) 4294967296)) X.1 X.2.1 hd N.2.2.2.2.2 hq (by rw [xn_ofInt, hz, xn_add]) (by rw [← N.2.2.2.2.1]; exact h2) rfl (fun ls' hl => w ls' (xL_put (v := .inl _) N.2.2.2.2.1 (by rw [← N.2.2.2.2.1]; exact h2) rfl hl))
theorem s_iadd (hd : decode (xc mi) pc = .ok (.iadd, 1)) (hk : xSK l Dg cl tys cA fl ft base adS GW xy xc xn xr Ex code K dl fs fin mi (pc + 1) k) :
    xSK l Dg cl tys cA fl ft base adS GW xy xc xn xr Ex code K dl fs fin mi pc (h_bin f_add k) := by
  refine hk.pure fun h c ls st hh => ?_
  obtain ⟨v, t, rfl, hh1⟩ := xpop_s hh
  obtain ⟨u, t, rfl, hh2⟩ := xpop_s hh1
  obtain ⟨b, rfl, hh3⟩ := xint_s hh2
  obtain ⟨a, rfl, hh4⟩ := xint_s hh3
  rw [xst_eq] at hh4
  refine ⟨_, _, hh4, fun p e R s m args below meth cd H locs lsA cells slots Q X N w => lv_iadd X.1 X.2.1 hd ?_⟩
  rw [xn_add]
  exact w lsA N.2.2.2.2
theorem s_isub (hd : decode (xc mi) pc = .ok (.isub, 1)) (hk : xSK l Dg cl tys cA fl ft base adS GW xy xc xn xr Ex code K dl fs fin mi (pc + 1) k) :
    xSK l Dg cl tys cA fl ft base adS GW xy xc xn xr Ex code K dl fs fin mi pc (h_bin f_sub k) := by
  refine hk.pure fun h c ls st hh => ?_
  obtain ⟨v, t, rfl, hh1⟩ := xpop_s hh
  obtain ⟨u, t, rfl, hh2⟩ := xpop_s hh1
  obtain ⟨b, rfl, hh3⟩ := xint_s hh2
  obtain ⟨a, rfl, hh4⟩ := xint_s hh3
  rw [xst_eq] at hh4
  refine ⟨_, _, hh4, fun p e R s m args below meth cd H locs lsA cells slots Q X N w => lv_isub X.1 X.2.1 hd ?_⟩
  rw [xn_sub]
  exact w lsA N.2.2.2.2
theorem s_imul (hd : decode (xc mi) pc = .ok (.imul, 1)) (hk : xSK l Dg cl tys cA fl ft base adS GW xy xc xn xr Ex code K dl fs fin mi (pc + 1) k) :
    xSK l Dg cl tys cA fl ft base adS GW xy xc xn xr Ex code K dl fs fin mi pc (h_bin f_mul k) := by
  refine hk.pure fun h c ls st hh => ?_
  obtain ⟨v, t, rfl, hh1⟩ := xpop_s hh
  obtain ⟨u, t, rfl, hh2⟩ := xpop_s hh1
  obtain ⟨b, rfl, hh3⟩ := xint_s hh2
  obtain ⟨a, rfl, hh4⟩ := xint_s hh3
  rw [xst_eq] at hh4
  refine ⟨_, _, hh4, fun p e R s m args below meth cd H locs lsA cells slots Q X N w => lv_imul X.1 X.2.1 hd ?_⟩
  rw [xn_mul]
  exact w lsA N.2.2.2.2
theorem s_iand (hd : decode (xc mi) pc = .ok (.iand, 1)) (hk : xSK l Dg cl tys cA fl ft base adS GW xy xc xn xr Ex code K dl fs fin mi (pc + 1) k) :
    xSK l Dg cl tys cA fl ft base adS GW xy xc xn xr Ex code K dl fs fin mi pc (h_bin Nat.land k) := by
  refine hk.pure fun h c ls st hh => ?_
  obtain ⟨v, t, rfl, hh1⟩ := xpop_s hh
  obtain ⟨u, t, rfl, hh2⟩ := xpop_s hh1
  obtain ⟨b, rfl, hh3⟩ := xint_s hh2
  obtain ⟨a, rfl, hh4⟩ := xint_s hh3
  rw [xst_eq] at hh4
  refine ⟨_, _, hh4, fun p e R s m args below meth cd H locs lsA cells slots Q X N w => lv_iand X.1 X.2.1 hd ?_⟩
  rw [xn_and]
  exact w lsA N.2.2.2.2
theorem s_idiv (hd : decode (xc mi) pc = .ok (.idiv, 1)) (hk : xSK l Dg cl tys cA fl ft base adS GW xy xc xn xr Ex code K dl fs fin mi (pc + 1) k) :
    xSK l Dg cl tys cA fl ft base adS GW xy xc xn xr Ex code K dl fs fin mi pc (h_divr Nat.div k) := by
  refine hk.pure fun h c ls st hh => ?_
  obtain ⟨v, t, rfl, hh1⟩ := xpop_s hh
  obtain ⟨u, t, rfl, hh2⟩ := xpop_s hh1
  obtain ⟨b, rfl, hh3⟩ := xint_s hh2
  obtain ⟨a, rfl, hh4⟩ := xint_s hh3
  obtain ⟨q1, hh5⟩ := xck_s hh4
  obtain ⟨q2, hh6⟩ := xck_s hh5
  obtain ⟨q3, hh7⟩ := xck_s hh6
  rw [xst_eq] at hh7
  have q1 := (blt_iff _ _).mp q1
  have q2 := (blt_iff _ _).mp q2
  have q3 := (blt_iff _ _).mp q3
  refine ⟨_, _, hh7, fun p e R s m args below meth cd H locs lsA cells slots Q X N w => lv_idiv X.1 X.2.1 hd (nI_ne0 q3 q2) ?_⟩
  rw [pk_div q1 q3 q2]
  exact w lsA N.2.2.2.2
theorem s_irem (hd : decode (xc mi) pc = .ok (.irem, 1)) (hk : xSK l Dg cl tys cA fl ft base adS GW xy xc xn xr Ex code K dl fs fin mi (pc + 1) k) :
    xSK l Dg cl tys cA fl ft base adS GW xy xc xn xr Ex code K dl fs fin mi pc (h_divr Nat.mod k) := by
  refine hk.pure fun h c ls st hh => ?_
  obtain ⟨v, t, rfl, hh1⟩ := xpop_s hh
  obtain ⟨u, t, rfl, hh2⟩ := xpop_s hh1
  obtain ⟨b, rfl, hh3⟩ := xint_s hh2
  obtain ⟨a, rfl, hh4⟩ := xint_s hh3
  obtain ⟨q1, hh5⟩ := xck_s hh4
  obtain ⟨q2, hh6⟩ := xck_s hh5
  obtain ⟨q3, hh7⟩ := xck_s hh6
  rw [xst_eq] at hh7
  have q1 := (blt_iff _ _).mp q1
  have q2 := (blt_iff _ _).mp q2
  have q3 := (blt_iff _ _).mp q3
  refine ⟨_, _, hh7, fun p e R s m args below meth cd H locs lsA cells slots Q X N w => lv_irem X.1 X.2.1 hd (nI_ne0 q3 q2) ?_⟩
  rw [pk_rem q1 q3 q2]
  exact w lsA N.2.2.2.2
theorem s_ineg (hd : decode (xc mi) pc = .ok (.ineg, 1)) (hk : xSK l Dg cl tys cA fl ft base adS GW xy xc xn xr Ex code K dl fs fin mi (pc + 1) k) :
    xSK l Dg cl tys cA fl ft base adS GW xy xc xn xr Ex code K dl fs fin mi pc (h_un f_neg k) := by
  refine hk.pure fun h c ls st hh => ?_
  obtain ⟨u, t, rfl, hh1⟩ := xpop_s hh
  obtain ⟨a, rfl, hh2⟩ := xint_s hh1
  rw [xst_eq] at hh2
  refine ⟨_, _, hh2, fun p e R s m args below meth cd H locs lsA cells slots Q X N w => lv_ineg X.1 X.2.1 hd ?_⟩
  rw [xn_neg]
  exact w lsA N.2.2.2.2
theorem s_i2b (hd : decode (xc mi) pc = .ok (.i2b, 1)) (hk : xSK l Dg cl tys cA fl ft base adS GW xy xc xn xr Ex code K dl fs fin mi (pc + 1) k) :
    xSK l Dg cl tys cA fl ft base adS GW xy xc xn xr Ex code K dl fs fin mi pc (h_un f_byte k) := by
  refine hk.pure fun h c ls st hh => ?_
  obtain ⟨u, t, rfl, hh1⟩ := xpop_s hh
  obtain ⟨a, rfl, hh2⟩ := xint_s hh1
  rw [xst_eq] at hh2
  exact ⟨_, _, hh2, fun p e R s m args below meth cd H locs lsA cells slots Q X N w => lv_i2b X.1 X.2.1 hd (xn_byte a) (w lsA N.2.2.2.2)⟩
theorem s_i2c (hd : decode (xc mi) pc = .ok (.i2c, 1)) (hk : xSK l Dg cl tys cA fl ft base adS GW xy xc xn xr Ex code K dl fs fin mi (pc + 1) k) :
    xSK l Dg cl tys cA fl ft base adS GW xy xc xn xr Ex code K dl fs fin mi pc (h_un f_char k) := by
  refine hk.pure fun h c ls st hh => ?_
  obtain ⟨u, t, rfl, hh1⟩ := xpop_s hh
  obtain ⟨a, rfl, hh2⟩ := xint_s hh1
  rw [xst_eq] at hh2
  exact ⟨_, _, hh2, fun p e R s m args below meth cd H locs lsA cells slots Q X N w => lv_i2c X.1 X.2.1 hd (xn_char a) (w lsA N.2.2.2.2)⟩
theorem s_dup (hd : decode (xc mi) pc = .ok (.dup, 1)) (hk : xSK l Dg cl tys cA fl ft base adS GW xy xc xn xr Ex code K dl fs fin mi (pc + 1) k) :
    xSK l Dg cl tys cA fl ft base adS GW xy xc xn xr Ex code K dl fs fin mi pc (h_dup k) := by
  refine hk.pure fun h c ls st hh => ?_
  obtain ⟨v, t, rfl, hh1⟩ := xpop_s hh
  obtain ⟨h1, hh2⟩ := xcat1_s hh1
  exact ⟨_, _, hh2, fun p e R s m args below meth cd H locs lsA cells slots Q X N w => lv_dup X.1 X.2.1 hd (xval_cat h1) (w lsA N.2.2.2.2)⟩
theorem s_dup2 (hd : decode (xc mi) pc = .ok (.dup2, 1)) (hk : xSK l Dg cl tys cA fl ft base adS GW xy xc xn xr Ex code K dl fs fin mi (pc + 1) k) :
    xSK l Dg cl tys cA fl ft base adS GW xy xc xn xr Ex code K dl fs fin mi pc (h_dup2 k) := by
  refine hk.pure fun h c ls st hh => ?_
  obtain ⟨v, t, rfl, hh1⟩ := xpop_s hh
  obtain ⟨u, t, rfl, hh2⟩ := xpop_s hh1
  obtain ⟨h1, hh3⟩ := xcat1_s hh2
  obtain ⟨h2, hh4⟩ := xcat1_s hh3
  exact ⟨_, _, hh4, fun p e R s m args below meth cd H locs lsA cells slots Q X N w => lv_dup2_11 X.1 X.2.1 hd (xval_cat h1) (xval_cat h2) (w lsA N.2.2.2.2)⟩
theorem s_pop (hd : decode (xc mi) pc = .ok (.pop, 1)) (hk : xSK l Dg cl tys cA fl ft base adS GW xy xc xn xr Ex code K dl fs fin mi (pc + 1) k) :
    xSK l Dg cl tys cA fl ft base adS GW xy xc xn xr Ex code K dl fs fin mi pc (h_pop k) := by
  refine hk.pure fun h c ls st hh => ?_
  obtain ⟨v, t, rfl, hh1⟩ := xpop_s hh
  obtain ⟨h1, hh2⟩ := xcat1_s hh1
  exact ⟨_, _, hh2, fun p e R s m args below meth cd H locs lsA cells slots Q X N w => lv_pop X.1 X.2.1 hd (xval_cat h1) (w lsA N.2.2.2.2)⟩
end XO

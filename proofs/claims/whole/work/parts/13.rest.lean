/-! What is left: nothing more, narrow ends, wide constants; a block's soundness by its place. -/
noncomputable def x_no {d : Nat} : xK d := fun _ _ _ _ => none
noncomputable def h_nret {d : Nat} (t : Nat → Bool) (dl : Nat) (fs : List xF) (ih : xS d → xR d) : xK d := fun h c _ st => xpop st (fun v st => xint v (fun a => xck (t a) (xnil st (xretv dl fs ih v h c))))
noncomputable def h_cret {d : Nat} (dl : Nat) (fs : List xF) (ih : xS d → xR d) : xK d := h_nret (fun a => Nat.blt a 65536) dl fs ih
noncomputable def h_bret {d : Nat} (dl : Nat) (fs : List xF) (ih : xS d → xR d) : xK d := h_nret (fun a => Nat.blt a 128) dl fs ih
section XREST
variable {l : Launch} {Dg : va_G} {cl : List vw_C} {tys : List (ClassId × FieldType)} {cA fl : Nat → Nat} {ft : Nat → Nat → Nat} {base : Nat} {adS : Nat → Nat} {GW : List Cond}
variable {xy : Nat → MethodName} {xc : Nat → ByteArray} {xn : Nat → Nat} {xr : Nat → Option FieldType} {Ex : State → Heap → Prop} {d e : Nat} {code : xBT (xB d) e} {bm bp : Nat → Nat}
variable {K n dl mi pc nS : Nat} {fs : List xF} {fin : xE d} {j k : xK d} {TT : xBT (Nat × Nat) 5}
theorem s_no : xSK l Dg cl tys cA fl ft base adS GW xy xc xn xr Ex code K dl fs fin mi pc (x_no : xK d) := by
  intro h c ls st hh
  cases hh
theorem s_ldcw {n0 : Nat} {index : Nat} {v : Int32} (hv : v = nI n0) (hw : Cond.constant (xy mi).cls index v ∈ GW) (hd : decode (xc mi) pc = .ok (.ldc_w index, 3)) (hk : xSK l Dg cl tys cA fl ft base adS GW xy xc xn xr Ex code K dl fs fin mi (pc + 3) k) : xSK l Dg cl tys cA fl ft base adS GW xy xc xn xr Ex code K dl fs fin mi pc (h_iconst n0 k) := by
  subst hv
  refine hk.pure fun h c ls st hh => ?_
  exact ⟨_, _, hh, fun p e R s m args below meth cd H locs lsA cells slots Q X N w => lv_ldcw X.1 X.2.1 X.2.2.2.2.2.1 (X.2.2.2.2.2.2.2.1 _ hw) hd (w lsA N.2.2.2.2)⟩
theorem s_nret {ty : FieldType} {tst : Nat → Bool} (htst : ∀ a, tst a = true → narrow ty (.int (nI a)) = .int (nI a)) (hEk : ∀ (U : State) (H H1 : Heap), Ex U H → (∀ a, a < H.size → ¬ base ≤ a → H1[a]? = H[a]?) → Ex U H1) (hEm : ∀ (u U : State) (H : Heap), u.WarmedH U.vm → Ex u H → Ex U H) (hr : xr mi = some ty) (hd : decode (xc mi) pc = .ok (.ireturn, 1)) : xSK l Dg cl tys cA fl ft base adS GW xy xc xn xr Ex code (n + 1) dl fs fin mi pc (h_nret tst dl fs (xrun code n)) := by
  intro h c ls st hh
  obtain ⟨v, t, rfl, hh1⟩ := xpop_s hh
  obtain ⟨a, rfl, hh2⟩ := xint_s hh1
  obtain ⟨ha, hh3⟩ := xck_s hh2
  obtain ⟨rfl, hh4⟩ := xnil_s hh3
  refine ⟨some (.inl a), h, c, Nat.le_refl _, Nat.le_refl _, fun q => q, xretv_then hh4, ?_⟩
  intro p e R s m args below meth cd H locs lsA cells slots mc ms X N g1 g2 g3 g4
  rw [Nat.sub_self, Nat.add_zero] at g1 g2
  subst g1
  subst g2
  exact W.zret (v := nI a) X.1 X.2.1 (X.2.2.1.trans hr) (htst a ha) (fun t ht hW => xQ.of (r := some (.inl a)) (o := some (.int (nI a))) rfl hEk hEm X N t ht hW) N.2.2.2.1.2.2 hd X.2.2.2.2.1
theorem s_cret (hEk : ∀ (U : State) (H H1 : Heap), Ex U H → (∀ a, a < H.size → ¬ base ≤ a → H1[a]? = H[a]?) → Ex U H1) (hEm : ∀ (u U : State) (H : Heap), u.WarmedH U.vm → Ex u H → Ex U H) (hr : xr mi = some .char) (hd : decode (xc mi) pc = .ok (.ireturn, 1)) : xSK l Dg cl tys cA fl ft base adS GW xy xc xn xr Ex code (n + 1) dl fs fin mi pc (h_cret dl fs (xrun code n)) := s_nret (fun a h => (pk_charN ((blt_iff _ _).mp h)).1) hEk hEm hr hd
theorem s_bret (hEk : ∀ (U : State) (H H1 : Heap), Ex U H → (∀ a, a < H.size → ¬ base ≤ a → H1[a]? = H[a]?) → Ex U H1) (hEm : ∀ (u U : State) (H : Heap), u.WarmedH U.vm → Ex u H → Ex U H) (hr : xr mi = some .byte) (hd : decode (xc mi) pc = .ok (.ireturn, 1)) : xSK l Dg cl tys cA fl ft base adS GW xy xc xn xr Ex code (n + 1) dl fs fin mi pc (h_bret dl fs (xrun code n)) := s_nret (fun a h => by
  have h := (blt_iff _ _).mp h
  show Value.int (nI a).toInt8.toInt32 = _
  rw [xn_byte]
  show Value.int (nI (xif (Nat.ble 128 (a % 256)) (a % 256 + 4294967040) (a % 256))) = _
  rw [Nat.mod_eq_of_lt (by omega), show Nat.ble 128 a = false by rw [← Bool.not_eq_true, Nat.ble_eq]; omega]
  rfl) hEk hEm hr hd
theorem xOK.mk {b : Nat} {t : xB d} (hm : bm b = mi) (hp : bp b = pc) (h : ∀ (n dl : Nat) (fs : List xF) (fin : xE d), xIH l Dg cl tys cA fl ft base adS GW xy xc xn xr Ex code bm bp (n + 1) → xSK l Dg cl tys cA fl ft base adS GW xy xc xn xr Ex code (n + 1) dl fs fin mi pc (t dl fs (xrun code n))) : xOK l Dg cl tys cA fl ft base adS GW xy xc xn xr Ex code bm bp b t := by
  subst hm
  subst hp
  exact h
end XREST
theorem xW_of {g : Nat} {G : xBT Cond g} {w : Cond} (i : Nat) (hi : i < 2 ^ g) (h : xget g G i = w) : w ∈ (List.range (2 ^ g)).map (xget g G) := List.mem_map.mpr ⟨i, List.mem_range.mpr hi, h⟩
theorem xlays_of {GW : List Cond} {C : String} {T : u_T} {N : Nat} (h : ∀ k, k < N → u_lay C T k ∈ GW) : ∀ w ∈ u_ws C T N, w ∈ GW := by
  intro w hw
  obtain ⟨k, hk, rfl⟩ := List.mem_map.mp hw
  exact h k (List.mem_range.mp hk)

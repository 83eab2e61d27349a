/-! The main induction; switches; texts. -/
theorem xget_mod {α : Type} : ∀ (d : Nat) (t : xBT α d) (i : Nat), xget d t i = xget d t (i % 2 ^ d)
  | 0, t, i => rfl
  | d + 1, t, i => by
    show xif (Nat.beq (i % 2) 0) (xget d (Prod.fst t) (i / 2)) (xget d (Prod.snd t) (i / 2)) = xif (Nat.beq ((i % 2 ^ (d + 1)) % 2) 0) (xget d (Prod.fst t) ((i % 2 ^ (d + 1)) / 2)) (xget d (Prod.snd t) ((i % 2 ^ (d + 1)) / 2))
    have h1 : (i % 2 ^ (d + 1)) % 2 = i % 2 := Nat.mod_mod_of_dvd i ⟨2 ^ d, by rw [Nat.pow_succ, Nat.mul_comm]⟩
    have h2 : (i % 2 ^ (d + 1)) / 2 = (i / 2) % 2 ^ d := by
      rw [Nat.pow_succ, Nat.mul_comm, Nat.mod_mul_right_div_self]
    rw [h1, h2, ← xget_mod d, ← xget_mod d]
noncomputable def h_sel {d : Nat} (js : List (xK d)) (jd : xK d) : Nat → xK d := List.rec (motive := fun _ => Nat → xK d) (fun _ => jd) (fun j _ ih i => xif (Nat.beq i 0) j (ih (Nat.pred i))) js
noncomputable def h_table {d : Nat} (lo : Nat) (js : List (xK d)) (jd : xK d) : xK d := fun h c ls st => xpop st (fun v st => xint v (fun a => xck (Nat.blt a 2147483648) (xif (Nat.ble lo a) (h_sel js jd (Nat.sub a lo) h c ls st) (jd h c ls st))))
noncomputable def h_find {d : Nat} (js : List (Nat × xK d)) (jd : xK d) : Nat → xK d := List.rec (motive := fun _ => Nat → xK d) (fun _ => jd) (fun p _ ih a => Prod.rec (motive := fun _ => xK d) (fun q j => xif (Nat.beq (xsg a) (xsg q)) j (ih a)) p) js
noncomputable def h_look {d : Nat} (js : List (Nat × xK d)) (jd : xK d) : xK d := fun h c ls st => xpop st (fun v st => xint v (fun a => h_find js jd a h c ls st))
theorem h_sel_eq {d : Nat} {jd : xK d} : ∀ (js : List (xK d)) (i : Nat), h_sel js jd i = js.getD i jd
  | [], i => by simp [h_sel]
  | j :: js, 0 => rfl
  | j :: js, i + 1 => by
    rw [List.getD_cons_succ, ← h_sel_eq js i]
    rfl
noncomputable def h_ishr {d : Nat} (k : xK d) : xK d := fun h c ls st => xpop st (fun v st => xpop st (fun u st => xint v (fun b => xint u (fun a => xck (Nat.blt a 2147483648) (xck (Nat.blt b 32) (xst (Nat.shiftRight a b) (fun m => k h c ls (Sum.inl m :: st))))))))
theorem xn_c31 : ∀ n, n < 32 → ((nI n &&& 31).toBitVec.smod 32).toNat = n := by decide +kernel
theorem xn_shr {a b : Nat} (ha : a < 2147483648) (hb : b < 32) : nI a >>> (nI b &&& 31) = nI (Nat.shiftRight a b) := by
  rw [pk_shrN ha _ b (xn_c31 b hb)]
  show _ = nI (a >>> b)
  rw [Nat.shiftRight_eq_div_pow]
section XMAIN
variable {l : Launch} {Dg : va_G} {cl : List vw_C} {tys : List (ClassId × FieldType)} {cA fl : Nat → Nat} {ft : Nat → Nat → Nat} {base : Nat} {adS : Nat → Nat} {GW : List Cond}
variable {xy : Nat → MethodName} {xc : Nat → ByteArray} {xn : Nat → Nat} {xr : Nat → Option FieldType} {Ex : State → Heap → Prop} {d e : Nat} {code : xBT (xB d) e} {bm bp : Nat → Nat}
variable {K n dl mi pc : Nat} {fs : List xF} {fin : xE d} {j k : xK d}
/-- a block is sound -/
def xOK (l : Launch) (Dg : va_G) (cl : List vw_C) (tys : List (ClassId × FieldType)) (cA fl : Nat → Nat) (ft : Nat → Nat → Nat) (base : Nat) (adS : Nat → Nat) (GW : List Cond) (xy : Nat → MethodName) (xc : Nat → ByteArray) (xn : Nat → Nat) (xr : Nat → Option FieldType) (Ex : State → Heap → Prop) {d e : Nat} (code : xBT (xB d) e) (bm bp : Nat → Nat) (b : Nat) (t : xB d) : Prop :=
  ∀ (n dl : Nat) (fs : List xF) (fin : xE d), xIH l Dg cl tys cA fl ft base adS GW xy xc xn xr Ex code bm bp (n + 1) → xSK l Dg cl tys cA fl ft base adS GW xy xc xn xr Ex code (n + 1) dl fs fin (bm b) (bp b) (t dl fs (xrun code n))
theorem x_sound (hmod : ∀ b, bm b = bm (b % 2 ^ e) ∧ bp b = bp (b % 2 ^ e)) (hB : ∀ b, b < 2 ^ e → xOK l Dg cl tys cA fl ft base adS GW xy xc xn xr Ex code bm bp b (xget e code b)) : ∀ K, xIH l Dg cl tys cA fl ft base adS GW xy xc xn xr Ex code bm bp K
  | 0 => fun k hk => absurd hk (Nat.not_lt_zero k)
  | K + 1 => by
    intro k hk b h c dl ls st fs fin hrun
    rcases Nat.lt_or_ge k K with q | q
    · exact x_sound hmod hB K k q b h c dl ls st fs fin hrun
    · have hkK : k = K := by omega
      subst hkK
      cases k with
      | zero => cases hrun
      | succ n =>
        rw [xrun_succ, xget_mod] at hrun
        obtain ⟨m1, m2⟩ := hmod b
        have h1 := hB (b % 2 ^ e) (Nat.mod_lt _ (Nat.pow_pos (by decide))) n dl fs fin (x_sound hmod hB (n + 1)) h c ls st hrun
        rw [← m1, ← m2] at h1
        exact h1
theorem s_table {lo : Nat} {dflt hi : Int} {offs : Array Int} {len td : Nat} {js : List (xK d)} {jd : xK d} (hd : decode (xc mi) pc = .ok (.tableswitch dflt (lo : Int) hi offs, len)) (hlo : lo < 2147483648) (hhi : hi = (lo : Int) + js.length - 1) (hjl : js.length < 1000000) (ht : (pc : Int) + dflt = (td : Int)) (hjd : xSK l Dg cl tys cA fl ft base adS GW xy xc xn xr Ex code K dl fs fin mi td jd)
    (hjs : ∀ i, i < js.length → ∃ (off : Int) (tgt : Nat), offs[i]? = some off ∧ (pc : Int) + off = (tgt : Int) ∧ xSK l Dg cl tys cA fl ft base adS GW xy xc xn xr Ex code K dl fs fin mi tgt (js.getD i jd)) : xSK l Dg cl tys cA fl ft base adS GW xy xc xn xr Ex code K dl fs fin mi pc (h_table lo js jd) := by
  intro h c ls st hh
  obtain ⟨v, t, rfl, hh1⟩ := xpop_s hh
  obtain ⟨a, rfl, hh0⟩ := xint_s hh1
  obtain ⟨q1, hh2⟩ := xck_s hh0
  have q1 := (blt_iff _ _).mp q1
  have hI : (nI a).toInt = (a : Int) := nI_toInt q1
  by_cases hin : lo ≤ a ∧ a - lo < js.length
  · obtain ⟨q2, q3⟩ := hin
    rw [Nat.ble_eq_true_of_le q2] at hh2
    have hh3 : h_sel js jd (a - lo) h c ls t = some fin := hh2
    rw [h_sel_eq] at hh3
    obtain ⟨off, tgt, o1, o2, o3⟩ := hjs (a - lo) q3
    obtain ⟨r, h', c', l1, l2, l3, l4, w⟩ := o3 h c ls t hh3
    refine ⟨r, h', c', l1, l2, l3, l4, ?_⟩
    intro p e R s m args below meth cd H locs lsA cells slots mc ms X N g1 g2 g3 g4
    exact lv_tableIn X.1 X.2.1 hd (by rw [hI]; omega) (by rw [hI, hhi]; omega) (by rw [hI, show ((a : Int) - (lo : Int)).toNat = a - lo by omega]; exact o1) o2 (w p e R s m args below meth cd H locs lsA cells slots mc ms X N g1 g2 g3 g4)
  · have hh3 : jd h c ls t = some fin := by
      rcases xif_or hh2 with ⟨z1, z2⟩ | ⟨z1, z2⟩
      · rw [Nat.ble_eq] at z1
        have z3 : h_sel js jd (a - lo) h c ls t = some fin := z2
        rw [h_sel_eq, List.getD_eq_getElem?_getD, List.getElem?_eq_none (by omega)] at z3
        exact z3
      · exact z2
    obtain ⟨r, h', c', l1, l2, l3, l4, w⟩ := hjd h c ls t hh3
    refine ⟨r, h', c', l1, l2, l3, l4, ?_⟩
    intro p e R s m args below meth cd H locs lsA cells slots mc ms X N g1 g2 g3 g4
    refine lv_tableOut X.1 X.2.1 hd ?_ ht (w p e R s m args below meth cd H locs lsA cells slots mc ms X N g1 g2 g3 g4)
    rw [hI, hhi]
    omega
theorem xfind_s {dflt : Int} {jd : xK d} {td : Nat} (ht : (pc : Int) + dflt = (td : Int)) (hjd : xSK l Dg cl tys cA fl ft base adS GW xy xc xn xr Ex code K dl fs fin mi td jd) : ∀ (js : List (Nat × xK d)) (ps : List (Int × Int)), js.length = ps.length → (∀ i, i < js.length → ∃ (q : Nat) (jj : xK d) (key off : Int) (tgt : Nat), js[i]? = some (q, jj) ∧ ps[i]? = some (key, off) ∧ (nI q).toInt = key ∧ (pc : Int) + off = (tgt : Int) ∧ xSK l Dg cl tys cA fl ft base adS GW xy xc xn xr Ex code K dl fs fin mi tgt jj) →
    ∀ a : Nat, ∃ (off : Int) (tgt : Nat), Op.lookupswitch.offset ps dflt (nI a).toInt = off ∧ (pc : Int) + off = (tgt : Int) ∧ xSK l Dg cl tys cA fl ft base adS GW xy xc xn xr Ex code K dl fs fin mi tgt (h_find js jd a)
  | [], ps, hl, _, a => by
    have hps : ps = [] := List.length_eq_zero_iff.mp hl.symm
    subst hps
    exact ⟨dflt, td, rfl, ht, hjd⟩
  | p :: js, ps, hl, hj, a => by
    obtain ⟨q, jj, key, off, tgt, e1, e2, e3, e4, e5⟩ := hj 0 (Nat.succ_pos _)
    cases ps with
    | nil => cases hl
    | cons p2 ps =>
      rw [List.getElem?_cons_zero] at e1 e2
      cases e1
      cases e2
      by_cases hq : nI a = nI q
      · refine ⟨off, tgt, by rw [Op.lookupswitch.offset_cons, if_pos (by rw [hq]; exact e3.symm)], e4, ?_⟩
        have : h_find ((q, jj) :: js) jd a = jj := by
          show xif (Nat.beq (xsg a) (xsg q)) jj (h_find js jd a) = jj
          rw [show Nat.beq (xsg a) (xsg q) = true from (tq_eq_s a q).mpr hq]
          rfl
        rw [this]
        exact e5
      · obtain ⟨o, t2, f1, f2, f3⟩ := xfind_s ht hjd js ps (by simpa using hl) (fun i hi => by
          have := hj (i + 1) (Nat.succ_lt_succ hi)
          rw [List.getElem?_cons_succ, List.getElem?_cons_succ] at this
          exact this) a
        refine ⟨o, t2, by rw [lv_osw hq e3]; exact f1, f2, ?_⟩
        have : h_find ((q, jj) :: js) jd a = h_find js jd a := by
          show xif (Nat.beq (xsg a) (xsg q)) jj (h_find js jd a) = h_find js jd a
          have hb : tq_eq a q = false := by
            cases hb : tq_eq a q with
            | false => rfl
            | true => exact absurd ((tq_eq_s a q).mp hb) hq
          rw [show Nat.beq (xsg a) (xsg q) = false from hb]
          rfl
        rw [this]
        exact f3
theorem s_look {dflt : Int} {ps : Array (Int × Int)} {len td : Nat} {js : List (Nat × xK d)} {jd : xK d} (hd : decode (xc mi) pc = .ok (.lookupswitch dflt ps, len)) (hp : (ps.toList.zip (ps.toList.drop 1)).all (fun (a, next) => a.1 < next.1) = true) (ht : (pc : Int) + dflt = (td : Int)) (hjd : xSK l Dg cl tys cA fl ft base adS GW xy xc xn xr Ex code K dl fs fin mi td jd) (hl : js.length = ps.toList.length)
    (hj : ∀ i, i < js.length → ∃ (q : Nat) (jj : xK d) (key off : Int) (tgt : Nat), js[i]? = some (q, jj) ∧ ps.toList[i]? = some (key, off) ∧ (nI q).toInt = key ∧ (pc : Int) + off = (tgt : Int) ∧ xSK l Dg cl tys cA fl ft base adS GW xy xc xn xr Ex code K dl fs fin mi tgt jj) : xSK l Dg cl tys cA fl ft base adS GW xy xc xn xr Ex code K dl fs fin mi pc (h_look js jd) := by
  intro h c ls st hh
  obtain ⟨v, t, rfl, hh1⟩ := xpop_s hh
  obtain ⟨a, rfl, hh2⟩ := xint_s hh1
  obtain ⟨off, tgt, o1, o2, o3⟩ := xfind_s ht hjd js ps.toList hl hj a
  obtain ⟨r, h', c', l1, l2, l3, l4, w⟩ := o3 h c ls t hh2
  refine ⟨r, h', c', l1, l2, l3, l4, ?_⟩
  intro p e R s m args below meth cd H locs lsA cells slots mc ms X N g1 g2 g3 g4
  exact lv_lookup X.1 X.2.1 hd hp o1 o2 (w p e R s m args below meth cd H locs lsA cells slots mc ms X N g1 g2 g3 g4)
theorem s_ishr (hd : decode (xc mi) pc = .ok (.ishr, 1)) (hk : xSK l Dg cl tys cA fl ft base adS GW xy xc xn xr Ex code K dl fs fin mi (pc + 1) k) : xSK l Dg cl tys cA fl ft base adS GW xy xc xn xr Ex code K dl fs fin mi pc (h_ishr k) := by
  refine hk.pure fun h c ls st hh => ?_
  obtain ⟨v, t, rfl, hh1⟩ := xpop_s hh
  obtain ⟨u, t, rfl, hh2⟩ := xpop_s hh1
  obtain ⟨b, rfl, hh3⟩ := xint_s hh2
  obtain ⟨a, rfl, hh4⟩ := xint_s hh3
  obtain ⟨q1, hh5⟩ := xck_s hh4
  obtain ⟨q2, hh6⟩ := xck_s hh5
  rw [xst_eq] at hh6
  have q1 := (blt_iff _ _).mp q1
  have q2 := (blt_iff _ _).mp q2
  refine ⟨_, _, hh6, fun p e R s m args below meth cd H locs lsA cells slots Q X N w => lv_ishr X.1 X.2.1 hd ?_⟩
  rw [xn_shr q1 q2]
  exact w lsA N.2.2.2.2
end XMAIN

/-! Branches. -/
section XBR
variable {l : Launch} {Dg : va_G} {cl : List vw_C} {tys : List (ClassId × FieldType)} {cA fl : Nat → Nat} {ft : Nat → Nat → Nat} {base : Nat} {adS : Nat → Nat} {GW : List Cond}
variable {xy : Nat → MethodName} {xc : Nat → ByteArray} {xn : Nat → Nat} {xr : Nat → Option FieldType} {Ex : State → Heap → Prop} {d e : Nat} {code : xBT (xB d) e}
variable {K dl mi pc : Nat} {fs : List xF} {fin : xE d} {j k : xK d}
theorem xSK.br {pj pk : Nat} {k' : xK d} (hj : xSK l Dg cl tys cA fl ft base adS GW xy xc xn xr Ex code K dl fs fin mi pj j) (hk : xSK l Dg cl tys cA fl ft base adS GW xy xc xn xr Ex code K dl fs fin mi pk k)
    (hs : ∀ (h : xBT xC d) (c : Nat × Nat) (ls : List xO) (st : List xV), k' h c ls st = some fin → ∃ (b : Bool) (st1 : List xV), xif b (j h c ls st1) (k h c ls st1) = some fin ∧
      ∀ (p : Program) (e : Env) (R : Room) (s : State) (m : MethodId) (args : Array Value) (below : List Frame) (meth : Method) (cd : Code) (H : Heap) (locs : List Loc) (lsA : Array Slot) (cells slots : Nat) (Q : State → Prop),
        xCtx Dg cl tys base GW Ex (xy mi) (xc mi) (xn mi) (xr mi) dl p R s m args meth cd →
        (b = true → W p l e R s m args below meth cd H locs cells slots Q (F0 m pj lsA (st1.map (xval (xad base adS))))) →
        (b = false → W p l e R s m args below meth cd H locs cells slots Q (F0 m pk lsA (st1.map (xval (xad base adS))))) →
        W p l e R s m args below meth cd H locs cells slots Q (F0 m pc lsA (st.map (xval (xad base adS))))) :
    xSK l Dg cl tys cA fl ft base adS GW xy xc xn xr Ex code K dl fs fin mi pc k' := by
  intro h c ls st he
  obtain ⟨b, st1, h1, h2⟩ := hs h c ls st he
  cases b with
  | true =>
    obtain ⟨r, h', c', l1, l2, l3, l4, w⟩ := hj h c ls st1 h1
    refine ⟨r, h', c', l1, l2, l3, l4, ?_⟩
    intro p e R s m args below meth cd H locs lsA cells slots mc ms X N g1 g2 g3 g4
    exact h2 p e R s m args below meth cd H locs lsA cells slots _ X (fun _ => w p e R s m args below meth cd H locs lsA cells slots mc ms X N g1 g2 g3 g4) (fun z => by cases z)
  | false =>
    obtain ⟨r, h', c', l1, l2, l3, l4, w⟩ := hk h c ls st1 h1
    refine ⟨r, h', c', l1, l2, l3, l4, ?_⟩
    intro p e R s m args below meth cd H locs lsA cells slots mc ms X N g1 g2 g3 g4
    exact h2 p e R s m args below meth cd H locs lsA cells slots _ X (fun z => by cases z) (fun _ => w p e R s m args below meth cd H locs lsA cells slots mc ms X N g1 g2 g3 g4)
theorem s_icmp_eq {off : Int} {tgt : Nat} (ht : (pc : Int) + off = (tgt : Int)) (hd : decode (xc mi) pc = .ok (.if_icmp .eq off, 3)) (hj : xSK l Dg cl tys cA fl ft base adS GW xy xc xn xr Ex code K dl fs fin mi tgt j) (hk : xSK l Dg cl tys cA fl ft base adS GW xy xc xn xr Ex code K dl fs fin mi (pc + 3) k) :
    xSK l Dg cl tys cA fl ft base adS GW xy xc xn xr Ex code K dl fs fin mi pc (h_if2 tq_eq j k) := by
  refine xSK.br hj hk fun h c ls st hh => ?_
  obtain ⟨v, t, rfl, hh1⟩ := xpop_s hh
  obtain ⟨u, t, rfl, hh2⟩ := xpop_s hh1
  obtain ⟨b, rfl, hh3⟩ := xint_s hh2
  obtain ⟨a, rfl, hh4⟩ := xint_s hh3
  exact ⟨_, _, hh4, fun p e R s m args below meth cd H locs lsA cells slots Q X w1 w2 => lv_icmp_eq X.1 X.2.1 hd ht (fun z => w1 ((tq_eq_s a b).mpr z)) (fun z => w2 (by rw [← Bool.not_eq_true, tq_eq_s]; exact z))⟩
theorem s_icmp_ne {off : Int} {tgt : Nat} (ht : (pc : Int) + off = (tgt : Int)) (hd : decode (xc mi) pc = .ok (.if_icmp .ne off, 3)) (hj : xSK l Dg cl tys cA fl ft base adS GW xy xc xn xr Ex code K dl fs fin mi tgt j) (hk : xSK l Dg cl tys cA fl ft base adS GW xy xc xn xr Ex code K dl fs fin mi (pc + 3) k) :
    xSK l Dg cl tys cA fl ft base adS GW xy xc xn xr Ex code K dl fs fin mi pc (h_if2 tq_ne j k) := by
  refine xSK.br hj hk fun h c ls st hh => ?_
  obtain ⟨v, t, rfl, hh1⟩ := xpop_s hh
  obtain ⟨u, t, rfl, hh2⟩ := xpop_s hh1
  obtain ⟨b, rfl, hh3⟩ := xint_s hh2
  obtain ⟨a, rfl, hh4⟩ := xint_s hh3
  exact ⟨_, _, hh4, fun p e R s m args below meth cd H locs lsA cells slots Q X w1 w2 => lv_icmp_ne X.1 X.2.1 hd ht (fun z => w1 ((tq_ne_s a b).mpr z)) (fun z => w2 (by rw [← Bool.not_eq_true, tq_ne_s]; exact fun q => q z))⟩
theorem s_icmp_lt {off : Int} {tgt : Nat} (ht : (pc : Int) + off = (tgt : Int)) (hd : decode (xc mi) pc = .ok (.if_icmp .lt off, 3)) (hj : xSK l Dg cl tys cA fl ft base adS GW xy xc xn xr Ex code K dl fs fin mi tgt j) (hk : xSK l Dg cl tys cA fl ft base adS GW xy xc xn xr Ex code K dl fs fin mi (pc + 3) k) :
    xSK l Dg cl tys cA fl ft base adS GW xy xc xn xr Ex code K dl fs fin mi pc (h_if2 tq_lt j k) := by
  refine xSK.br hj hk fun h c ls st hh => ?_
  obtain ⟨v, t, rfl, hh1⟩ := xpop_s hh
  obtain ⟨u, t, rfl, hh2⟩ := xpop_s hh1
  obtain ⟨b, rfl, hh3⟩ := xint_s hh2
  obtain ⟨a, rfl, hh4⟩ := xint_s hh3
  exact ⟨_, _, hh4, fun p e R s m args below meth cd H locs lsA cells slots Q X w1 w2 => lv_icmp_lt X.1 X.2.1 hd ht (fun z => w1 ((tq_lt_s a b).mpr z)) (fun z => w2 (by rw [← Bool.not_eq_true, tq_lt_s]; exact z))⟩
theorem s_icmp_ge {off : Int} {tgt : Nat} (ht : (pc : Int) + off = (tgt : Int)) (hd : decode (xc mi) pc = .ok (.if_icmp .ge off, 3)) (hj : xSK l Dg cl tys cA fl ft base adS GW xy xc xn xr Ex code K dl fs fin mi tgt j) (hk : xSK l Dg cl tys cA fl ft base adS GW xy xc xn xr Ex code K dl fs fin mi (pc + 3) k) :
    xSK l Dg cl tys cA fl ft base adS GW xy xc xn xr Ex code K dl fs fin mi pc (h_if2 tq_ge j k) := by
  refine xSK.br hj hk fun h c ls st hh => ?_
  obtain ⟨v, t, rfl, hh1⟩ := xpop_s hh
  obtain ⟨u, t, rfl, hh2⟩ := xpop_s hh1
  obtain ⟨b, rfl, hh3⟩ := xint_s hh2
  obtain ⟨a, rfl, hh4⟩ := xint_s hh3
  exact ⟨_, _, hh4, fun p e R s m args below meth cd H locs lsA cells slots Q X w1 w2 => lv_icmp_ge X.1 X.2.1 hd ht (fun z => w1 ((tq_ge_s a b).mpr z)) (fun z => w2 (by rw [← Bool.not_eq_true, tq_ge_s]; exact z))⟩
theorem s_icmp_gt {off : Int} {tgt : Nat} (ht : (pc : Int) + off = (tgt : Int)) (hd : decode (xc mi) pc = .ok (.if_icmp .gt off, 3)) (hj : xSK l Dg cl tys cA fl ft base adS GW xy xc xn xr Ex code K dl fs fin mi tgt j) (hk : xSK l Dg cl tys cA fl ft base adS GW xy xc xn xr Ex code K dl fs fin mi (pc + 3) k) :
    xSK l Dg cl tys cA fl ft base adS GW xy xc xn xr Ex code K dl fs fin mi pc (h_if2 tq_gt j k) := by
  refine xSK.br hj hk fun h c ls st hh => ?_
  obtain ⟨v, t, rfl, hh1⟩ := xpop_s hh
  obtain ⟨u, t, rfl, hh2⟩ := xpop_s hh1
  obtain ⟨b, rfl, hh3⟩ := xint_s hh2
  obtain ⟨a, rfl, hh4⟩ := xint_s hh3
  exact ⟨_, _, hh4, fun p e R s m args below meth cd H locs lsA cells slots Q X w1 w2 => lv_icmp_gt X.1 X.2.1 hd ht (fun z => w1 ((tq_gt_s a b).mpr z)) (fun z => w2 (by rw [← Bool.not_eq_true, tq_gt_s]; exact z))⟩
theorem s_icmp_le {off : Int} {tgt : Nat} (ht : (pc : Int) + off = (tgt : Int)) (hd : decode (xc mi) pc = .ok (.if_icmp .le off, 3)) (hj : xSK l Dg cl tys cA fl ft base adS GW xy xc xn xr Ex code K dl fs fin mi tgt j) (hk : xSK l Dg cl tys cA fl ft base adS GW xy xc xn xr Ex code K dl fs fin mi (pc + 3) k) :
    xSK l Dg cl tys cA fl ft base adS GW xy xc xn xr Ex code K dl fs fin mi pc (h_if2 tq_le j k) := by
  refine xSK.br hj hk fun h c ls st hh => ?_
  obtain ⟨v, t, rfl, hh1⟩ := xpop_s hh
  obtain ⟨u, t, rfl, hh2⟩ := xpop_s hh1
  obtain ⟨b, rfl, hh3⟩ := xint_s hh2
  obtain ⟨a, rfl, hh4⟩ := xint_s hh3
  exact ⟨_, _, hh4, fun p e R s m args below meth cd H locs lsA cells slots Q X w1 w2 => lv_icmp_le X.1 X.2.1 hd ht (fun z => w1 ((tq_le_s a b).mpr z)) (fun z => w2 (by rw [← Bool.not_eq_true, tq_le_s]; exact z))⟩
theorem s_if_eq {off : Int} {tgt : Nat} (ht : (pc : Int) + off = (tgt : Int)) (hd : decode (xc mi) pc = .ok (.ifCond .eq off, 3)) (hj : xSK l Dg cl tys cA fl ft base adS GW xy xc xn xr Ex code K dl fs fin mi tgt j) (hk : xSK l Dg cl tys cA fl ft base adS GW xy xc xn xr Ex code K dl fs fin mi (pc + 3) k) :
    xSK l Dg cl tys cA fl ft base adS GW xy xc xn xr Ex code K dl fs fin mi pc (h_if1 (fun a => tq_eq a 0) j k) := by
  refine xSK.br hj hk fun h c ls st hh => ?_
  obtain ⟨u, t, rfl, hh1⟩ := xpop_s hh
  obtain ⟨a, rfl, hh2⟩ := xint_s hh1
  exact ⟨_, _, hh2, fun p e R s m args below meth cd H locs lsA cells slots Q X w1 w2 => lv_if_eq X.1 X.2.1 hd ht (fun z => w1 ((tq_eq_s a 0).mpr (by rw [nI_0]; exact z))) (fun z => w2 (by rw [← Bool.not_eq_true, tq_eq_s, nI_0]; exact z))⟩
theorem s_if_ne {off : Int} {tgt : Nat} (ht : (pc : Int) + off = (tgt : Int)) (hd : decode (xc mi) pc = .ok (.ifCond .ne off, 3)) (hj : xSK l Dg cl tys cA fl ft base adS GW xy xc xn xr Ex code K dl fs fin mi tgt j) (hk : xSK l Dg cl tys cA fl ft base adS GW xy xc xn xr Ex code K dl fs fin mi (pc + 3) k) :
    xSK l Dg cl tys cA fl ft base adS GW xy xc xn xr Ex code K dl fs fin mi pc (h_if1 (fun a => tq_ne a 0) j k) := by
  refine xSK.br hj hk fun h c ls st hh => ?_
  obtain ⟨u, t, rfl, hh1⟩ := xpop_s hh
  obtain ⟨a, rfl, hh2⟩ := xint_s hh1
  exact ⟨_, _, hh2, fun p e R s m args below meth cd H locs lsA cells slots Q X w1 w2 => lv_if_ne X.1 X.2.1 hd ht (fun z => w1 ((tq_ne_s a 0).mpr (by rw [nI_0]; exact z))) (fun z => w2 (by rw [← Bool.not_eq_true, tq_ne_s, nI_0]; exact fun q => q z))⟩
theorem s_if_lt {off : Int} {tgt : Nat} (ht : (pc : Int) + off = (tgt : Int)) (hd : decode (xc mi) pc = .ok (.ifCond .lt off, 3)) (hj : xSK l Dg cl tys cA fl ft base adS GW xy xc xn xr Ex code K dl fs fin mi tgt j) (hk : xSK l Dg cl tys cA fl ft base adS GW xy xc xn xr Ex code K dl fs fin mi (pc + 3) k) :
    xSK l Dg cl tys cA fl ft base adS GW xy xc xn xr Ex code K dl fs fin mi pc (h_if1 (fun a => tq_lt a 0) j k) := by
  refine xSK.br hj hk fun h c ls st hh => ?_
  obtain ⟨u, t, rfl, hh1⟩ := xpop_s hh
  obtain ⟨a, rfl, hh2⟩ := xint_s hh1
  exact ⟨_, _, hh2, fun p e R s m args below meth cd H locs lsA cells slots Q X w1 w2 => lv_if_lt X.1 X.2.1 hd ht (fun z => w1 ((tq_lt_s a 0).mpr (by rw [nI_0]; exact z))) (fun z => w2 (by rw [← Bool.not_eq_true, tq_lt_s, nI_0]; exact z))⟩
theorem s_if_ge {off : Int} {tgt : Nat} (ht : (pc : Int) + off = (tgt : Int)) (hd : decode (xc mi) pc = .ok (.ifCond .ge off, 3)) (hj : xSK l Dg cl tys cA fl ft base adS GW xy xc xn xr Ex code K dl fs fin mi tgt j) (hk : xSK l Dg cl tys cA fl ft base adS GW xy xc xn xr Ex code K dl fs fin mi (pc + 3) k) :
    xSK l Dg cl tys cA fl ft base adS GW xy xc xn xr Ex code K dl fs fin mi pc (h_if1 (fun a => tq_ge a 0) j k) := by
  refine xSK.br hj hk fun h c ls st hh => ?_
  obtain ⟨u, t, rfl, hh1⟩ := xpop_s hh
  obtain ⟨a, rfl, hh2⟩ := xint_s hh1
  exact ⟨_, _, hh2, fun p e R s m args below meth cd H locs lsA cells slots Q X w1 w2 => lv_if_ge X.1 X.2.1 hd ht (fun z => w1 ((tq_ge_s a 0).mpr (by rw [nI_0]; exact z))) (fun z => w2 (by rw [← Bool.not_eq_true, tq_ge_s, nI_0]; exact z))⟩
theorem s_if_gt {off : Int} {tgt : Nat} (ht : (pc : Int) + off = (tgt : Int)) (hd : decode (xc mi) pc = .ok (.ifCond .gt off, 3)) (hj : xSK l Dg cl tys cA fl ft base adS GW xy xc xn xr Ex code K dl fs fin mi tgt j) (hk : xSK l Dg cl tys cA fl ft base adS GW xy xc xn xr Ex code K dl fs fin mi (pc + 3) k) :
    xSK l Dg cl tys cA fl ft base adS GW xy xc xn xr Ex code K dl fs fin mi pc (h_if1 (fun a => tq_gt a 0) j k) := by
  refine xSK.br hj hk fun h c ls st hh => ?_
  obtain ⟨u, t, rfl, hh1⟩ := xpop_s hh
  obtain ⟨a, rfl, hh2⟩ := xint_s hh1
  exact ⟨_, _, hh2, fun p e R s m args below meth cd H locs lsA cells slots Q X w1 w2 => lv_if_gt X.1 X.2.1 hd ht (fun z => w1 ((tq_gt_s a 0).mpr (by rw [nI_0]; exact z))) (fun z => w2 (by rw [← Bool.not_eq_true, tq_gt_s, nI_0]; exact z))⟩
theorem s_if_le {off : Int} {tgt : Nat} (ht : (pc : Int) + off = (tgt : Int)) (hd : decode (xc mi) pc = .ok (.ifCond .le off, 3)) (hj : xSK l Dg cl tys cA fl ft base adS GW xy xc xn xr Ex code K dl fs fin mi tgt j) (hk : xSK l Dg cl tys cA fl ft base adS GW xy xc xn xr Ex code K dl fs fin mi (pc + 3) k) :
    xSK l Dg cl tys cA fl ft base adS GW xy xc xn xr Ex code K dl fs fin mi pc (h_if1 (fun a => tq_le a 0) j k) := by
  refine xSK.br hj hk fun h c ls st hh => ?_
  obtain ⟨u, t, rfl, hh1⟩ := xpop_s hh
  obtain ⟨a, rfl, hh2⟩ := xint_s hh1
  exact ⟨_, _, hh2, fun p e R s m args below meth cd H locs lsA cells slots Q X w1 w2 => lv_if_le X.1 X.2.1 hd ht (fun z => w1 ((tq_le_s a 0).mpr (by rw [nI_0]; exact z))) (fun z => w2 (by rw [← Bool.not_eq_true, tq_le_s, nI_0]; exact z))⟩
theorem s_goto {off : Int} {tgt : Nat} (ht : (pc : Int) + off = (tgt : Int)) (hd : decode (xc mi) pc = .ok (.goto off, 3)) (hj : xSK l Dg cl tys cA fl ft base adS GW xy xc xn xr Ex code K dl fs fin mi tgt j) : xSK l Dg cl tys cA fl ft base adS GW xy xc xn xr Ex code K dl fs fin mi pc j := by
  refine hj.pure fun h c ls st hh => ?_
  exact ⟨_, _, hh, fun p e R s m args below meth cd H locs lsA cells slots Q X N w => lv_goto X.1 X.2.1 hd ht (w lsA N.2.2.2.2)⟩
end XBR

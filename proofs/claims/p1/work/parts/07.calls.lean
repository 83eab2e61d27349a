/-! Calls. -/
theorem xcell_obj {ad cA fl : Nat → Nat} {ft : Nat → Nat → Nat} {c : xC} {ci : Nat} (h : c.1 = ci + 8) : xcell ad cA fl ft c = .inr (ci, (List.range (fl ci)).map (fun j => xfv ad (ft ci j) (xd8 c.2.2 j))) := by
  obtain ⟨kd, n, A⟩ := c
  subst h
  rfl
theorem xad_in {base : Nat} {adS : Nat → Nat} {k : Nat} (h : k < 1000) : xad base adS k = base + k := if_pos h
theorem xws_D {base : Nat} {adS cA fl : Nat → Nat} {ft : Nat → Nat → Nat} {g : Nat → xC} {n : Nat} (hn : n ≤ 1000) : va_D (fun q => base ≤ q) (xws (xad base adS) cA fl ft g n) := by
  have key : ∀ (i : Nat) (p : Nat × va_E), (xws (xad base adS) cA fl ft g n)[i]? = some p → i < n ∧ p.1 = base + i := by
    intro i p h
    have hi : i < n := by
      have h1 := (List.getElem?_eq_some_iff.mp h).1
      simpa [xws] using h1
    rw [xws_get hi] at h
    cases h
    exact ⟨hi, xad_in (by omega)⟩
  refine ⟨fun i j p q hi hj h => ?_, fun k q hk => ?_⟩
  · obtain ⟨-, a⟩ := key i p hi
    obtain ⟨-, b⟩ := key j q hj
    omega
  · obtain ⟨-, a⟩ := key k q hk
    show base ≤ q.1
    omega
noncomputable def xdown {d : Nat} (dl : Nat) (k : Nat → xR d) : xR d := Nat.rec (motive := fun _ => xR d) none (fun m _ => k m) dl
noncomputable def h_calls {d : Nat} (b0 b1 nA : Nat) (pads : List xO) (dl : Nat) (fs : List xF) (ih : xS d → xR d) : xK d := fun h c ls st => xargs nA st pads (fun acc st => xsmall 8 st (xdown dl (fun m => ih (h, (c, (m, ((b0, (acc, [])), (b1, (ls, st)) :: fs)))))))
noncomputable def h_calli {d : Nat} (b0 b1 nA : Nat) (pads : List xO) (dl : Nat) (fs : List xF) (ih : xS d → xR d) : xK d := fun h c ls st => xargs nA st pads (fun acc st => xpop st (fun v st => xobj v (fun _ => xsmall 8 st (xdown dl (fun m => ih (h, (c, (m, ((b0, (some v :: acc, [])), (b1, (ls, st)) :: fs)))))))))
noncomputable def h_callv {d : Nat} (b0 b1 nA kc : Nat) (pads : List xO) (dl : Nat) (fs : List xF) (ih : xS d → xR d) : xK d := fun h c ls st => xargs nA st pads (fun acc st => xpop st (fun v st => xobj v (fun q => xck (Nat.blt q (Prod.fst c)) (xck (Nat.beq (Prod.fst (xget d h q)) kc) (xsmall 8 st (xdown dl (fun m => ih (h, (c, (m, ((b0, (some v :: acc, [])), (b1, (ls, st)) :: fs)))))))))))
section XCALLS
variable {l : Launch} {Dg : va_G} {cl : List vw_C} {tys : List (ClassId × FieldType)} {cA fl : Nat → Nat} {ft : Nat → Nat → Nat} {base : Nat} {adS : Nat → Nat} {GW : List Cond}
variable {xy : Nat → MethodName} {xc : Nat → ByteArray} {xn : Nat → Nat} {xr : Nat → Option FieldType} {Ex : State → Heap → Prop} {d e : Nat} {code : xBT (xB d) e} {bm bp : Nat → Nat}
variable {K n dl mi pc : Nat} {fs : List xF} {fin : xE d} {j k : xK d}
theorem xMet {vs : List xV} {h h' : xBT xC d} {c c' : Nat × Nat} {r : xO} (hy : plainName (xy mi).cls = true) (hv : ∀ v ∈ vs, xlong v = false) (hn : vs.length ≤ xn mi) (hc : c.1 < 2 ^ d)
    (w : xWp l Dg cl tys cA fl ft base adS GW xy xc xn xr Ex d mi 0 dl h c (vs.map some ++ List.replicate (xn mi - vs.length) none) [] r h' c') :
    Met l (xy mi) (Cond.code (xy mi) (xc mi) (xn mi) (xr mi) :: GW) ({ frames := dl + 2, cells := c'.1 - c.1, slots := c'.2 - c.2, locals := 64 * dl + 100 }) (va_Pc (vs.map (xval (xad base adS))) (fun U => xWd Dg cl tys cA fl ft base adS Ex d h c.1 U)) (xQ Dg cl tys cA fl ft base adS Ex d r h' c'.1) (c'.1 - c.1) (c'.2 - c.2) (fun q => base ≤ q) := by
  refine Met.ofW (cc := xc mi) (maxL := xn mi) (ret := xr mi) hy rfl ?_
  intro p e s m args below meth cd s₁ B hml hv0
  obtain ⟨rfl, hsz, hP, hK, hE⟩ := hv0
  have hts := atoms_spec (ws := Cond.code (xy mi) (xc mi) (xn mi) (xr mi) :: GW) B.pre
  rw [lg_entry_eq]
  exact w p e _ s m _ below meth cd s.heap [] _ 0 0 _ _ ⟨B.exec, B.bytes, B.returns, hml, B.notSynchronized, findClass_of_methodNamed B.named, (name_of_methodNamed B.named B.method).1, fun w hw => hts w (List.mem_cons_of_mem _ hw), hK, hE, by rw [hsz]; omega, Nat.le_refl _, Nat.le_refl _⟩ ⟨hsz, hc, hP, va_S.rf, xL_entry hv hn⟩ (Nat.zero_add _) (Nat.zero_add _) (Nat.le_refl _) (Nat.le_refl _)
theorem xWd_blind {h : xBT xC d} {N : Nat} {av : List Value} (hEv : ∀ (u U : State) (H : Heap), U.vm = u.vm → Ex u H → Ex U H) : FrameBlind (va_Pc av (fun U => xWd Dg cl tys cA fl ft base adS Ex d h N U)) := by
  intro a U g mk q
  obtain ⟨q0, h1, h2, h3, h4⟩ := q
  exact ⟨q0, h1, h2, va_K.moved (u := U) (U := U.calling g mk a) (Vm.Alike.refl U.vm) h3, hEv U (U.calling g mk a) _ rfl h4⟩
theorem x_after {p : Program} {e : Env} {R : Room} {s : State} {m : MethodId} {args : Array Value} {below : List Frame} {meth : Method} {cd : Code} {H : Heap} {locs : List Loc} {lsA : Array Slot} {cells slots mc0 ms0 nL N n1 : Nat} {Q : State → Prop} {ls : List xO} {h h1 : xBT xC d} {r1 : xO} {st0 rest : List Value} {a : Array Value}
    (hR : va_Run p l e R s m args below meth cd H locs cells slots mc0 ms0 (F0 m pc lsA st0) rest (xQ Dg cl tys cA fl ft base adS Ex d r1 h1 n1 a) (fun q => base ≤ q)) (hN : xNow Dg cl cA fl ft base adS d h N nL ls s H locs lsA) (hn1 : n1 < 2 ^ d)
    (kk : ∀ (H1 : Heap) (locs1 : List Loc), xNow Dg cl cA fl ft base adS d h1 n1 nL ls s H1 locs1 lsA → W p l e R s m args below meth cd H1 locs1 (cells + mc0) (slots + ms0) Q (F0 m (pc + 3) lsA ((r1.map (xval (xad base adS))).toList ++ rest))) :
    W p l e R s m args below meth cd H locs cells slots Q (F0 m pc lsA st0) := by
  intro T hT X
  obtain ⟨v, st₀, t, T', L, h0, X', hL, e1, e2, ⟨hv, ⟨z, P, K1, E1⟩, hF⟩, st⟩ := hR T hT X
  have hv := Outcome.returned.inj hv
  subst hv
  obtain ⟨n1', n2', n3', n4', n5'⟩ := hN
  obtain ⟨f1, f2⟩ := hF
  rw [h0] at f1 f2
  obtain ⟨t2, a1, b1⟩ := kk T'.heap (locs ++ L) ⟨by rw [e1]; exact z, hn1, by rw [e1]; exact P, ⟨Nat.le_trans n4'.1 (by rw [e1]; exact f1), fun q q1 q2 => by
      rw [e1, f2 q (Nat.lt_of_lt_of_le q1 n4'.1) q2]; exact n4'.2.1 q q1 q2, fun q hq => by
      rcases List.mem_append.mp hq with z | z
      · exact n4'.2.2 q z
      · exact hL q z⟩, n5'⟩ T' rfl X'
  exact ⟨t2, st t2 a1, b1⟩
theorem xWd_of {p : Program} {R : Room} {s : State} {m : MethodId} {args : Array Value} {meth : Method} {cd : Code} {y : MethodName} {cc : ByteArray} {nL N nl : Nat} {ret : Option FieldType} {H : Heap} {locs : List Loc} {lsA : Array Slot} {ls : List xO} {h : xBT xC d}
    (hEk : ∀ (U : State) (H H1 : Heap), Ex U H → (∀ a, a < H.size → ¬ base ≤ a → H1[a]? = H[a]?) → Ex U H1) (hEm : ∀ (u U : State) (H : Heap), u.WarmedH U.vm → Ex u H → Ex U H)
    (X : xCtx Dg cl tys base GW Ex y cc nL ret dl p R s m args meth cd) (hN : xNow Dg cl cA fl ft base adS d h N nl ls s H locs lsA) (U : State) (hU : U.heap = H) (hW : s.WarmedH U.vm) : xWd Dg cl tys cA fl ft base adS Ex d h N U := by
  obtain ⟨n1, n2, n3, n4, n5⟩ := hN
  obtain ⟨x1, x2, x3, x4, x5, x6, x7, x8, x9, x10, x11, x12, x13⟩ := X
  refine ⟨by rw [hU]; exact n1, by rw [hU]; exact n3, va_K.moved hW.alike x9, ?_⟩
  rw [hU]
  exact hEm s U H hW (hEk s s.heap H x10 n4.2.1)
/-- what a call site wants of the words -/
def xSite (GW : List Cond) (own : String) (index : Nat) (y : MethodName) (cc : ByteArray) (nL : Nat) (ret : Option FieldType) (n : Nat) : Prop :=
  Cond.methodLink own index y ∈ GW ∧ Cond.initialized y.cls ∈ GW ∧ Cond.code y cc nL ret ∈ GW ∧ (y.cls ≠ "java/lang/invoke/MethodHandle" ∧ y.cls ≠ "java/lang/invoke/VarHandle") ∧ (parseMethodDescriptor y.desc).map (fun d => d.parameters.length) = some n ∧ plainName y.cls = true
theorem xCallB {p : Program} {R : Room} {s : State} {m : MethodId} {args : Array Value} {meth : Method} {cd : Code} {y y2 : MethodName} {cc cc2 : ByteArray} {nL nL2 mc0 ms0 n2 index : Nat} {ret ret2 : Option FieldType} (hG : ∀ w ∈ GW, (w.onTables && w.keeps) = true ∨ ∃ ty, w = .arrayClass ty)
    (X : xCtx Dg cl tys base GW Ex y cc nL ret (dl + 1) p R s m args meth cd) (hS : xSite GW y.cls index y2 cc2 nL2 ret2 n2) (hL : nL2 ≤ 45) : CallB R s args y.cls index y2 cc2 nL2 ret2 (Cond.code y2 cc2 nL2 ret2 :: GW) ({ frames := dl + 2, cells := mc0, slots := ms0, locals := 64 * dl + 100 }) mc0 ms0 n2 := by
  obtain ⟨x1, x2, x3, x4, x5, x6, x7, x8, x9, x10, x11, x12, x13⟩ := X
  obtain ⟨s1, s2, s3, s4, s5, s6⟩ := hS
  refine ⟨rfl, rfl, by show dl + 2 + 1 ≤ _; omega, by show 8 + (nL2 + 11) + (64 * dl + 100) ≤ _; omega, fun w hw a' U hW => ?_, List.mem_cons_self, x8 _ s3, x8 _ s2, s4, fun sig h => ?_, x8 _ s1⟩
  · have hw2 : w ∈ GW := by
      rcases List.mem_cons.mp hw with z | z
      · rw [z]; exact s3
      · exact z
    exact word_at hW (hG w hw2) (x8 w hw2)
  · rw [h] at s5
    exact (Option.some.inj s5).symm
theorem xmap_app {ad : Nat → Nat} {r : xO} {st : List xV} : ((r.toList ++ st).map (xval ad)) = (r.map (xval ad)).toList ++ st.map (xval ad) := by
  cases r <;> simp
theorem s_calls {b0 b1 nA m2 index : Nat} {pads : List xO} (hI : xIH l Dg cl tys cA fl ft base adS GW xy xc xn xr Ex code bm bp (n + 1)) (hEk : ∀ (U : State) (H H1 : Heap), Ex U H → (∀ a, a < H.size → ¬ base ≤ a → H1[a]? = H[a]?) → Ex U H1) (hEm : ∀ (u U : State) (H : Heap), u.WarmedH U.vm → Ex u H → Ex U H) (hEv : ∀ (u U : State) (H : Heap), U.vm = u.vm → Ex u H → Ex U H) (hG : ∀ w ∈ GW, (w.onTables && w.keeps) = true ∨ ∃ ty, w = .arrayClass ty)
    (e0 : bm b0 = m2 ∧ bp b0 = 0) (e1 : bm b1 = mi ∧ bp b1 = pc + 3) (hp : pads = List.replicate (xn m2 - nA) none) (hn : nA ≤ xn m2 ∧ xn m2 ≤ 45) (hS : xSite GW (xy mi).cls index (xy m2) (xc m2) (xn m2) (xr m2) nA) (hst : Cond.static (xy m2) ∈ GW)
    (hd : decode (xc mi) pc = .ok (.invokestatic index, 3)) : xSK l Dg cl tys cA fl ft base adS GW xy xc xn xr Ex code (n + 1) dl fs fin mi pc (h_calls b0 b1 nA pads dl fs (xrun code n)) := by
  subst hp
  intro h c ls st hh
  obtain ⟨vs, st', v1, v2, v3, hh1⟩ := xargs_s hh
  obtain ⟨hsm, hh2⟩ := xsmall_s (ad := xad base adS) hh1
  cases dl with
  | zero => cases hh2
  | succ dl =>
    have hh3 : xrun code n (h, (c, (dl, ((b0, (vs.map some ++ List.replicate (xn m2 - nA) none, [])), (b1, (ls, st')) :: fs)))) = some fin := hh2
    obtain ⟨r1, h1, c1, l1, l2, l3, ⟨k, hk, hrun⟩, w1⟩ := hI n (Nat.lt_succ_self n) b0 h c dl _ [] _ fin hh3
    rw [xpush_eq] at hrun
    obtain ⟨r, h2, c2, k1, k2, k3, k4, w2⟩ := hI k (by omega) b1 h1 c1 (dl + 1) ls (r1.toList ++ st') fs fin hrun
    rw [e0.1, e0.2] at w1
    rw [e1.1, e1.2] at w2
    refine ⟨r, h2, c2, Nat.le_trans l1 k1, Nat.le_trans l2 k2, fun q => k3 (l3 q), k4.mono (by omega), ?_⟩
    intro p e R s m args below meth cd H locs lsA cells slots mc ms X N g1 g2 g3 g4
    rw [← v1] at w1
    have hM := xMet (mi := m2) (vs := vs) (c := c) (c' := c1) hS.2.2.2.2.2 v3 (by rw [v1]; exact hn.1) N.2.1 w1
    have hR := va_runS (As := vs.map (xval (xad base adS))) (rest := st'.map (xval (xad base adS))) (g := F0 m pc lsA (st.map (xval (xad base adS)))) (cc := xc mi) (nL := xn mi) (cells := cells) (slots := slots) (H := H) (locs := locs) (below := below) (meth := meth) (c := cd) (p := p) (e := e) (m := m)
      ⟨X.1, X.2.1, X.2.2.2.1, X.2.2.2.2.2.1, X.2.2.2.2.2.2.2.1⟩ hM ⟨xCallB hG X hS hn.2, X.2.2.2.2.2.2.2.1 _ hst⟩ ⟨xWd_blind hEv, fun U hU hW => ⟨rfl, xWd_of hEk hEm X N U hU hW⟩⟩ rfl (by rw [List.length_map]; exact v1) N.2.2.2.2.2.1 (by rw [v2, List.map_append, List.map_reverse]) (lv_room hsm) hd ⟨by omega, by omega⟩
    refine x_after hR N (l3 N.2.1) fun H1 locs1 N1 => ?_
    have hw := w2 p e R s m args below meth cd H1 locs1 lsA (cells + (c1.1 - c.1)) (slots + (c1.2 - c.2)) mc ms X N1 (by omega) (by omega) g3 g4
    rw [xmap_app] at hw
    exact hw
theorem s_calli {b0 b1 nA m2 index : Nat} {pads : List xO} (hI : xIH l Dg cl tys cA fl ft base adS GW xy xc xn xr Ex code bm bp (n + 1)) (hEk : ∀ (U : State) (H H1 : Heap), Ex U H → (∀ a, a < H.size → ¬ base ≤ a → H1[a]? = H[a]?) → Ex U H1) (hEm : ∀ (u U : State) (H : Heap), u.WarmedH U.vm → Ex u H → Ex U H) (hEv : ∀ (u U : State) (H : Heap), U.vm = u.vm → Ex u H → Ex U H) (hG : ∀ w ∈ GW, (w.onTables && w.keeps) = true ∨ ∃ ty, w = .arrayClass ty)
    (e0 : bm b0 = m2 ∧ bp b0 = 0) (e1 : bm b1 = mi ∧ bp b1 = pc + 3) (hp : pads = List.replicate (xn m2 - (nA + 1)) none) (hn : nA + 1 ≤ xn m2 ∧ xn m2 ≤ 45) (hr : xr m2 = none) (hS : xSite GW (xy mi).cls index (xy m2) (xc m2) (xn m2) none nA) (hin : (xy m2).name = "<init>") (hst : Cond.instanceMethod (xy m2) ∈ GW)
    (hd : decode (xc mi) pc = .ok (.invokespecial index, 3)) : xSK l Dg cl tys cA fl ft base adS GW xy xc xn xr Ex code (n + 1) dl fs fin mi pc (h_calli b0 b1 nA pads dl fs (xrun code n)) := by
  subst hp
  intro h c ls st hh
  obtain ⟨As, st1, v1, v2, v3, hh1⟩ := xargs_s hh
  obtain ⟨v, st', q1, hh2⟩ := xpop_s hh1
  obtain ⟨o, q2, hh3⟩ := xobj_s hh2
  obtain ⟨hsm, hh4⟩ := xsmall_s (ad := xad base adS) hh3
  cases dl with
  | zero => cases hh4
  | succ dl =>
    have hh5 : xrun code n (h, (c, (dl, ((b0, ((v :: As).map some ++ List.replicate (xn m2 - (nA + 1)) none, [])), (b1, (ls, st')) :: fs)))) = some fin := hh4
    obtain ⟨r1, h1, c1, l1, l2, l3, ⟨k, hk, hrun⟩, w1⟩ := hI n (Nat.lt_succ_self n) b0 h c dl _ [] _ fin hh5
    rw [xpush_eq] at hrun
    obtain ⟨r, h2, c2, k1, k2, k3, k4, w2⟩ := hI k (by omega) b1 h1 c1 (dl + 1) ls (r1.toList ++ st') fs fin hrun
    rw [e0.1, e0.2] at w1
    rw [e1.1, e1.2] at w2
    refine ⟨r, h2, c2, Nat.le_trans l1 k1, Nat.le_trans l2 k2, fun q => k3 (l3 q), k4.mono (by omega), ?_⟩
    intro p e R s m args below meth cd H locs lsA cells slots mc ms X N g1 g2 g3 g4
    have vl : (v :: As).length = nA + 1 := by rw [List.length_cons, v1]
    rw [← vl] at w1
    have hM := xMet (mi := m2) (vs := v :: As) (c := c) (c' := c1) hS.2.2.2.2.2 (fun w hw => by
      rcases List.mem_cons.mp hw with z | z
      · rw [z, q2]; rfl
      · exact v3 w z) (by rw [vl]; exact hn.1) N.2.1 w1
    rw [hr] at hM
    have hR := va_runI (As := As.map (xval (xad base adS))) (b := xad base adS o) (rest := st'.map (xval (xad base adS))) (g := F0 m pc lsA (st.map (xval (xad base adS)))) (cc := xc mi) (nL := xn mi) (cells := cells) (slots := slots) (H := H) (locs := locs) (below := below) (meth := meth) (c := cd) (p := p) (e := e) (m := m)
      ⟨X.1, X.2.1, X.2.2.2.1, X.2.2.2.2.2.1, X.2.2.2.2.2.2.2.1⟩ hM ⟨xCallB hG X hS hn.2, hin, X.2.2.2.2.2.2.2.1 _ hst⟩ ⟨xWd_blind hEv, fun U hU hW => ⟨by rw [q2]; rfl, xWd_of hEk hEm X N U hU hW⟩⟩ rfl (by rw [List.length_map]; exact v1) N.2.2.2.2.2.1 (by rw [v2, q1, q2, List.map_append, List.map_reverse]; rfl) (lv_room hsm) hd ⟨by omega, by omega⟩
    refine x_after hR N (l3 N.2.1) fun H1 locs1 N1 => ?_
    have hw := w2 p e R s m args below meth cd H1 locs1 lsA (cells + (c1.1 - c.1)) (slots + (c1.2 - c.2)) mc ms X N1 (by omega) (by omega) g3 g4
    rw [xmap_app] at hw
    exact hw
theorem s_callv {b0 b1 nA kc ci m2 index N0 : Nat} {C : String} {T : u_T} {pads : List xO} (hI : xIH l Dg cl tys cA fl ft base adS GW xy xc xn xr Ex code bm bp (n + 1)) (hEk : ∀ (U : State) (H H1 : Heap), Ex U H → (∀ a, a < H.size → ¬ base ≤ a → H1[a]? = H[a]?) → Ex U H1) (hEm : ∀ (u U : State) (H : Heap), u.WarmedH U.vm → Ex u H → Ex U H) (hEv : ∀ (u U : State) (H : Heap), U.vm = u.vm → Ex u H → Ex U H) (hG : ∀ w ∈ GW, (w.onTables && w.keeps) = true ∨ ∃ ty, w = .arrayClass ty)
    (e0 : bm b0 = m2 ∧ bp b0 = 0) (e1 : bm b1 = mi ∧ bp b1 = pc + 3) (hp : pads = List.replicate (xn m2 - (nA + 1)) none) (hn : nA + 1 ≤ xn m2 ∧ xn m2 ≤ 45) (hS : xSite GW (xy mi).cls index (xy m2) (xc m2) (xn m2) (xr m2) nA) (hst : Cond.instanceMethod (xy m2) ∈ GW ∧ Cond.selects C (xy m2) (xy m2) ∈ GW) (hkc : kc = ci + 8) (hcl : cl[ci]? = some (C, T, N0))
    (hd : decode (xc mi) pc = .ok (.invokevirtual index, 3)) : xSK l Dg cl tys cA fl ft base adS GW xy xc xn xr Ex code (n + 1) dl fs fin mi pc (h_callv b0 b1 nA kc pads dl fs (xrun code n)) := by
  subst hp
  subst hkc
  intro h c ls st hh
  obtain ⟨As, st1, v1, v2, v3, hh1⟩ := xargs_s hh
  obtain ⟨v, st', q1, hh2⟩ := xpop_s hh1
  obtain ⟨o, q2, hh3⟩ := xobj_s hh2
  obtain ⟨q3, hh4⟩ := xck_s hh3
  obtain ⟨q4, hh5⟩ := xck_s hh4
  obtain ⟨hsm, hh6⟩ := xsmall_s (ad := xad base adS) hh5
  have q3 := (blt_iff _ _).mp q3
  have q4 := Nat.eq_of_beq_eq_true q4
  cases dl with
  | zero => cases hh6
  | succ dl =>
    have hh7 : xrun code n (h, (c, (dl, ((b0, ((v :: As).map some ++ List.replicate (xn m2 - (nA + 1)) none, [])), (b1, (ls, st')) :: fs)))) = some fin := hh6
    obtain ⟨r1, h1, c1, l1, l2, l3, ⟨k, hk, hrun⟩, w1⟩ := hI n (Nat.lt_succ_self n) b0 h c dl _ [] _ fin hh7
    rw [xpush_eq] at hrun
    obtain ⟨r, h2, c2, k1, k2, k3, k4, w2⟩ := hI k (by omega) b1 h1 c1 (dl + 1) ls (r1.toList ++ st') fs fin hrun
    rw [e0.1, e0.2] at w1
    rw [e1.1, e1.2] at w2
    refine ⟨r, h2, c2, Nat.le_trans l1 k1, Nat.le_trans l2 k2, fun q => k3 (l3 q), k4.mono (by omega), ?_⟩
    intro p e R s m args below meth cd H locs lsA cells slots mc ms X N g1 g2 g3 g4
    have vl : (v :: As).length = nA + 1 := by rw [List.length_cons, v1]
    rw [← vl] at w1
    have hM := xMet (mi := m2) (vs := v :: As) (c := c) (c' := c1) hS.2.2.2.2.2 (fun w hw => by
      rcases List.mem_cons.mp hw with z | z
      · rw [z, q2]; rfl
      · exact v3 w z) (by rw [vl]; exact hn.1) N.2.1 w1
    have hrec := va_recv (q0 := o) (a := xad base adS o) X.2.2.2.2.2.2.2.2.1 N.2.2.1 hcl (by rw [xws_get q3, xcell_obj q4])
    have hR := va_runV (As := As.map (xval (xad base adS))) (b := xad base adS o) (C := C) (rest := st'.map (xval (xad base adS))) (g := F0 m pc lsA (st.map (xval (xad base adS)))) (cc := xc mi) (nL := xn mi) (cells := cells) (slots := slots) (H := H) (locs := locs) (below := below) (meth := meth) (c := cd) (p := p) (e := e) (m := m)
      ⟨X.1, X.2.1, X.2.2.2.1, X.2.2.2.2.2.1, X.2.2.2.2.2.2.2.1⟩ hM ⟨xCallB hG X hS hn.2, X.2.2.2.2.2.2.2.1 _ hst.1, X.2.2.2.2.2.2.2.1 _ hst.2⟩ ⟨xWd_blind hEv, hrec, fun U hU hW => ⟨by rw [q2]; rfl, xWd_of hEk hEm X N U hU hW⟩⟩ rfl (by rw [List.length_map]; exact v1) N.2.2.2.2.2.1 (by rw [v2, q1, q2, List.map_append, List.map_reverse]; rfl) (lv_room hsm) hd ⟨by omega, by omega⟩
    refine x_after hR N (l3 N.2.1) fun H1 locs1 N1 => ?_
    have hw := w2 p e R s m args below meth cd H1 locs1 lsA (cells + (c1.1 - c.1)) (slots + (c1.2 - c.2)) mc ms X N1 (by omega) (by omega) g3 g4
    rw [xmap_app] at hw
    exact hw
end XCALLS

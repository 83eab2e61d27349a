/-! More calls: with long numbers, of a nest mate's constructor, of a method that has handlers. -/
noncomputable def xsl (vs : List xV) : List xO := vs.flatMap (fun v => if xlong v = true then [some v, none] else [some v])
noncomputable def xcons (v : xV) (acc : List xO) : List xO := Sum.rec (motive := fun _ => List xO) (fun _ => some v :: acc) (fun u => Sum.rec (motive := fun _ => List xO) (fun _ => some v :: none :: acc) (fun _ => some v :: acc) u) v
theorem xcons_eq (v : xV) (acc : List xO) : xcons v acc = xsl [v] ++ acc := by
  cases v with
  | inl n => rfl
  | inr u =>
    cases u with
    | inl n => rfl
    | inr n => cases n <;> rfl
theorem xsl_app (a b : List xV) : xsl (a ++ b) = xsl a ++ xsl b := List.flatMap_append
theorem xsl_cons (v : xV) (b : List xV) : xsl (v :: b) = xsl [v] ++ xsl b := xsl_app [v] b
noncomputable def xargl {R : Type} (n : Nat) : List xV → List xO → (List xO → List xV → Option R) → Option R := Nat.rec (motive := fun _ => List xV → List xO → (List xO → List xV → Option R) → Option R) (fun st acc k => k acc st) (fun _ ih st acc k => xpop st (fun v t => ih t (xcons v acc) k)) n
theorem xargl_s {R : Type} : ∀ {n : Nat} {st : List xV} {acc : List xO} {k : List xO → List xV → Option R} {x : R}, xargl n st acc k = some x → ∃ (vs st' : List xV), vs.length = n ∧ st = vs.reverse ++ st' ∧ k (xsl vs ++ acc) st' = some x
  | 0, st, acc, k, x, h => ⟨[], st, rfl, rfl, h⟩
  | n + 1, st, acc, k, x, h => by
    obtain ⟨v, t, h1, h2⟩ := xpop_s (st := st) (k := fun v t => xargl n t (xcons v acc) k) h
    obtain ⟨vs, st', e1, e2, e4⟩ := xargl_s h2
    refine ⟨vs ++ [v], st', by simp [e1], by rw [h1, e2]; simp, ?_⟩
    rw [xsl_app, List.append_assoc, ← xcons_eq]
    exact e4
theorem xval_cat2 {ad : Nat → Nat} {v : xV} (h : xlong v = true) : (xval ad v).category = 2 := by
  match v with
  | .inl n => cases h
  | .inr (.inl n) => rfl
  | .inr (.inr 0) => cases h
  | .inr (.inr (k + 1)) => cases h
theorem xL_entryL {ad : Nat → Nat} {vs : List xV} {nL : Nat} (hn : (xsl vs).length ≤ nL) : xL ad ((lg_sl (vs.map (xval ad)) ++ List.replicate (nL - (lg_sl (vs.map (xval ad))).length) Slot.unset).toArray) nL (xsl vs ++ List.replicate (nL - (xsl vs).length) none) := by
  have e1 : ∀ (vs : List xV), (lg_sl (vs.map (xval ad))).length = (xsl vs).length := by
    intro vs
    induction vs with
    | nil => rfl
    | cons v vs ih =>
      rw [xsl_cons, List.length_append, ← ih]
      unfold lg_sl
      rw [List.map_cons, List.flatMap_cons, List.length_append]
      by_cases hv : xlong v = true
      · rw [if_pos (xval_cat2 hv), show xsl [v] = [some v, none] by unfold xsl; simp [hv]]
        rfl
      · have h1 := xval_cat (ad := ad) (v := v) (by simpa using hv)
        rw [if_neg (by omega), show xsl [v] = [some v] by unfold xsl; simp [hv]]
        rfl
  have e2 : ∀ (vs : List xV) (i k : Nat) (v : xV), (xsl vs)[k]? = some (some v) → (i + k, xval ad v) ∈ lv_args i (vs.map (xval ad)) := by
    intro vs
    induction vs with
    | nil => intro i k v hk; simp [xsl] at hk
    | cons w vs ih =>
      intro i k v hk
      rw [xsl_cons] at hk
      show (i + k, xval ad v) ∈ (i, xval ad w) :: lv_args (if (xval ad w).category = 2 then i + 2 else i + 1) (vs.map (xval ad))
      by_cases hw : xlong w = true
      · rw [if_pos (xval_cat2 hw)]
        rw [show xsl [w] = [some w, none] by unfold xsl; simp [hw]] at hk
        match k, hk with
        | 0, hk =>
          have h5 : some (some w) = some (some v) := hk
          rw [Option.some.inj (Option.some.inj h5)]
          exact List.mem_cons_self
        | 1, hk =>
          have h5 : some (none : xO) = some (some v) := hk
          cases Option.some.inj h5
        | k + 2, hk =>
          have h5 : (xsl vs)[k]? = some (some v) := hk
          have h6 := ih (i + 2) k v h5
          rw [show i + (k + 2) = i + 2 + k by omega]
          exact List.mem_cons_of_mem _ h6
      · have h1 := xval_cat (ad := ad) (v := w) (by simpa using hw)
        rw [if_neg (by omega)]
        rw [show xsl [w] = [some w] by unfold xsl; simp [hw]] at hk
        match k, hk with
        | 0, hk =>
          have h5 : some (some w) = some (some v) := hk
          rw [Option.some.inj (Option.some.inj h5)]
          exact List.mem_cons_self
        | k + 1, hk =>
          have h5 : (xsl vs)[k]? = some (some v) := hk
          have h6 := ih (i + 1) k v h5
          rw [show i + (k + 1) = i + 1 + k by omega]
          exact List.mem_cons_of_mem _ h6
  have hE := lv_entry (vs.map (xval ad)) (n := nL) (by rw [e1 vs]; exact hn)
  refine ⟨by rw [List.length_append, List.length_replicate]; omega, hE.1, hE.2.1, fun q hq => ?_⟩
  have hc := xcl_mem.mp hq
  unfold xclaim at hc
  split at hc
  · next v hv =>
    have hlt : q.1 < (xsl vs).length := by
      rcases Nat.lt_or_ge q.1 (xsl vs).length with z | z
      · exact z
      · rw [List.getElem?_append_right z] at hv
        have h5 := List.mem_of_getElem? hv
        simp at h5
    rw [List.getElem?_append_left hlt] at hv
    split at hc
    · cases hc
    · have h6 := e2 vs 0 q.1 v hv
      rw [Nat.zero_add, Option.some.inj hc] at h6
      exact hE.2.2 _ h6
  · cases hc
noncomputable def h_callL {d : Nat} (b0 b1 nA nL : Nat) (pads : List xO) (dl : Nat) (fs : List xF) (ih : xS d → xR d) : xK d := fun h c ls st => xargl nA st pads (fun acc st => xck (Nat.beq (List.length acc) nL) (xsmall 8 st (xdown dl (fun m => ih (h, (c, (m, ((b0, (acc, [])), (b1, (ls, st)) :: fs))))))))
section XCALL2
variable {l : Launch} {Dg : va_G} {cl : List vw_C} {tys : List (ClassId × FieldType)} {cA fl : Nat → Nat} {ft : Nat → Nat → Nat} {base : Nat} {adS : Nat → Nat} {GW : List Cond}
variable {xy : Nat → MethodName} {xc : Nat → ByteArray} {xn : Nat → Nat} {xr : Nat → Option FieldType} {Ex : State → Heap → Prop} {d e : Nat} {code : xBT (xB d) e} {bm bp : Nat → Nat}
variable {K n dl mi pc : Nat} {fs : List xF} {fin : xE d} {j k : xK d}
theorem xMetL {vs : List xV} {h h' : xBT xC d} {c c' : Nat × Nat} {r : xO} (hy : plainName (xy mi).cls = true) (hn : (xsl vs).length ≤ xn mi) (hc : c.1 < 2 ^ d)
    (w : xWp l Dg cl tys cA fl ft base adS GW xy xc xn xr Ex d mi 0 dl h c (xsl vs ++ List.replicate (xn mi - (xsl vs).length) none) [] r h' c') :
    Met l (xy mi) (Cond.code (xy mi) (xc mi) (xn mi) (xr mi) :: GW) ({ frames := dl + 2, cells := c'.1 - c.1, slots := c'.2 - c.2, locals := 64 * dl + 100 }) (va_Pc (vs.map (xval (xad base adS))) (fun U => xWd Dg cl tys cA fl ft base adS Ex d h c.1 U)) (xQ Dg cl tys cA fl ft base adS Ex d r h' c'.1) (c'.1 - c.1) (c'.2 - c.2) (fun q => base ≤ q) := by
  refine Met.ofW (cc := xc mi) (maxL := xn mi) (ret := xr mi) hy rfl ?_
  intro p e s m args below meth cd s₁ B hml hv0
  obtain ⟨rfl, hsz, hP, hK, hE⟩ := hv0
  have hts := atoms_spec (ws := Cond.code (xy mi) (xc mi) (xn mi) (xr mi) :: GW) B.pre
  rw [lg_entry_eq]
  exact w p e _ s m _ below meth cd s.heap [] _ 0 0 _ _ ⟨B.exec, B.bytes, B.returns, hml, B.notSynchronized, findClass_of_methodNamed B.named, (name_of_methodNamed B.named B.method).1, fun w hw => hts w (List.mem_cons_of_mem _ hw), hK, hE, by rw [hsz]; omega, Nat.le_refl _, Nat.le_refl _⟩ ⟨hsz, hc, hP, va_S.rf, xL_entryL hn⟩ (Nat.zero_add _) (Nat.zero_add _) (Nat.le_refl _) (Nat.le_refl _)
theorem s_callL {b0 b1 nA nL m2 index P : Nat} {pads : List xO} (hI : xIH l Dg cl tys cA fl ft base adS GW xy xc xn xr Ex code bm bp (n + 1)) (hEk : ∀ (U : State) (H H1 : Heap), Ex U H → (∀ a, a < H.size → ¬ base ≤ a → H1[a]? = H[a]?) → Ex U H1) (hEm : ∀ (u U : State) (H : Heap), u.WarmedH U.vm → Ex u H → Ex U H) (hEv : ∀ (u U : State) (H : Heap), U.vm = u.vm → Ex u H → Ex U H) (hG : ∀ w ∈ GW, (w.onTables && w.keeps) = true ∨ ∃ ty, w = .arrayClass ty)
    (e0 : bm b0 = m2 ∧ bp b0 = 0) (e1 : bm b1 = mi ∧ bp b1 = pc + 3) (hp : pads = List.replicate P none) (hn : xn m2 = nL ∧ xn m2 ≤ 45) (hS : xSite GW (xy mi).cls index (xy m2) (xc m2) (xn m2) (xr m2) nA) (hst : Cond.static (xy m2) ∈ GW)
    (hd : decode (xc mi) pc = .ok (.invokestatic index, 3)) : xSK l Dg cl tys cA fl ft base adS GW xy xc xn xr Ex code (n + 1) dl fs fin mi pc (h_callL b0 b1 nA nL pads dl fs (xrun code n)) := by
  subst hp
  intro h c ls st hh
  obtain ⟨vs, st', v1, v2, hh0⟩ := xargl_s hh
  obtain ⟨hq, hh1⟩ := xck_s hh0
  obtain ⟨hsm, hh2⟩ := xsmall_s (ad := xad base adS) hh1
  have hq := Nat.eq_of_beq_eq_true hq
  rw [List.length_append, List.length_replicate, ← hn.1] at hq
  cases dl with
  | zero => cases hh2
  | succ dl =>
    have hh3 : xrun code n (h, (c, (dl, ((b0, (xsl vs ++ List.replicate P none, [])), (b1, (ls, st')) :: fs)))) = some fin := hh2
    obtain ⟨r1, h1, c1, l1, l2, l3, ⟨k, hk, hrun⟩, w1⟩ := hI n (Nat.lt_succ_self n) b0 h c dl _ [] _ fin hh3
    rw [xpush_eq] at hrun
    obtain ⟨r, h2, c2, k1, k2, k3, k4, w2⟩ := hI k (by omega) b1 h1 c1 (dl + 1) ls (r1.toList ++ st') fs fin hrun
    rw [e0.1, e0.2] at w1
    rw [e1.1, e1.2] at w2
    refine ⟨r, h2, c2, Nat.le_trans l1 k1, Nat.le_trans l2 k2, fun q => k3 (l3 q), k4.mono (by omega), ?_⟩
    intro p e R s m args below meth cd H locs lsA cells slots mc ms X N g1 g2 g3 g4
    rw [show P = xn m2 - (xsl vs).length by omega] at w1
    have hM := xMetL (mi := m2) (vs := vs) (c := c) (c' := c1) hS.2.2.2.2.2 (by omega) N.2.1 w1
    have hR := va_runS (As := vs.map (xval (xad base adS))) (rest := st'.map (xval (xad base adS))) (g := F0 m pc lsA (st.map (xval (xad base adS)))) (cc := xc mi) (nL := xn mi) (cells := cells) (slots := slots) (H := H) (locs := locs) (below := below) (meth := meth) (c := cd) (p := p) (e := e) (m := m)
      ⟨X.1, X.2.1, X.2.2.2.1, X.2.2.2.2.2.1, X.2.2.2.2.2.2.2.1⟩ hM ⟨xCallB hG X hS hn.2, X.2.2.2.2.2.2.2.1 _ hst⟩ ⟨xWd_blind hEv, fun U hU hW => ⟨rfl, xWd_of hEk hEm X N U hU hW⟩⟩ rfl (by rw [List.length_map]; exact v1) N.2.2.2.2.2.1 (by rw [v2, List.map_append, List.map_reverse]) (lv_room hsm) hd ⟨by omega, by omega⟩
    refine x_after hR N (l3 N.2.1) fun H1 locs1 N1 => ?_
    have hw := w2 p e R s m args below meth cd H1 locs1 lsA (cells + (c1.1 - c.1)) (slots + (c1.2 - c.2)) mc ms X N1 (by omega) (by omega) g3 g4
    rw [xmap_app] at hw
    exact hw
/-- what a call of a nest mate's constructor wants of the words -/
def xSiteN (GW : List Cond) (y : MethodName) (cc : ByteArray) (nL : Nat) (ret : Option FieldType) (n : Nat) : Prop :=
  Cond.initialized y.cls ∈ GW ∧ Cond.code y cc nL ret ∈ GW ∧ (y.cls ≠ "java/lang/invoke/MethodHandle" ∧ y.cls ≠ "java/lang/invoke/VarHandle") ∧ (parseMethodDescriptor y.desc).map (fun d => d.parameters.length) = some n ∧ plainName y.cls = true
theorem xCallN {p : Program} {R : Room} {s : State} {m : MethodId} {args : Array Value} {meth : Method} {cd : Code} {y y2 : MethodName} {cc cc2 : ByteArray} {nL nL2 mc0 ms0 n2 index : Nat} {ret ret2 : Option FieldType} {host : String} (hG : ∀ w ∈ GW, (w.onTables && w.keeps) = true ∨ ∃ ty, w = .arrayClass ty)
    (X : xCtx Dg cl tys base GW Ex y cc nL ret (dl + 1) p R s m args meth cd) (hS : xSiteN GW y2 cc2 nL2 ret2 n2) (hN : va_Nw (.methodLinkNest y.cls index y2 host) s) (hL : nL2 ≤ 45) : va_CN R s args y.cls index y2 host cc2 nL2 ret2 (Cond.code y2 cc2 nL2 ret2 :: GW) ({ frames := dl + 2, cells := mc0, slots := ms0, locals := 64 * dl + 100 }) mc0 ms0 n2 := by
  obtain ⟨x1, x2, x3, x4, x5, x6, x7, x8, x9, x10, x11, x12, x13⟩ := X
  obtain ⟨s2, s3, s4, s5, s6⟩ := hS
  refine ⟨⟨rfl, rfl, by show dl + 2 + 1 ≤ _; omega, by show 8 + (nL2 + 11) + (64 * dl + 100) ≤ _; omega, fun w hw a' U hW => ?_, List.mem_cons_self⟩, x8 _ s3, x8 _ s2, s4, fun sig h => ?_, va_Nw.use rfl hN⟩
  · have hw2 : w ∈ GW := by
      rcases List.mem_cons.mp hw with z | z
      · rw [z]; exact s3
      · exact z
    exact word_at hW (hG w hw2) (x8 w hw2)
  · rw [h] at s5
    exact (Option.some.inj s5).symm
theorem s_callin {b0 b1 nA m2 index : Nat} {host : String} {pads : List xO} (hI : xIH l Dg cl tys cA fl ft base adS GW xy xc xn xr Ex code bm bp (n + 1)) (hEk : ∀ (U : State) (H H1 : Heap), Ex U H → (∀ a, a < H.size → ¬ base ≤ a → H1[a]? = H[a]?) → Ex U H1) (hEm : ∀ (u U : State) (H : Heap), u.WarmedH U.vm → Ex u H → Ex U H) (hEv : ∀ (u U : State) (H : Heap), U.vm = u.vm → Ex u H → Ex U H) (hG : ∀ w ∈ GW, (w.onTables && w.keeps) = true ∨ ∃ ty, w = .arrayClass ty)
    (hNw : ∀ s : State, Ex s s.heap → va_Nw (.methodLinkNest (xy mi).cls index (xy m2) host) s)
    (e0 : bm b0 = m2 ∧ bp b0 = 0) (e1 : bm b1 = mi ∧ bp b1 = pc + 3) (hp : pads = List.replicate (xn m2 - (nA + 1)) none) (hn : nA + 1 ≤ xn m2 ∧ xn m2 ≤ 45) (hr : xr m2 = none) (hS : xSiteN GW (xy m2) (xc m2) (xn m2) none nA) (hin : (xy m2).name = "<init>") (hst : Cond.instanceMethod (xy m2) ∈ GW)
    (hd : decode (xc mi) pc = .ok (.invokespecial index, 3)) : xSK l Dg cl tys cA fl ft base adS GW xy xc xn xr Ex code (n + 1) dl fs fin mi pc (h_calli b0 b1 nA pads dl fs (xrun code n)) := by
  subst hp
  intro h c ls st hh
  obtain ⟨As, st1, v1, v2, v3, hh1⟩ := xargs_s hh
  obtain ⟨v, st', q1, hh2⟩ := xpop_s hh1
  obtain ⟨o, q2, hh3⟩ := xobj_s hh2
  obtain ⟨hsm, hh4⟩ := xsmall_s (ad := xad base adS) hh3
  cases dl with
  | zero => cases hh4
  | succ dl =>
    have hh5 : xrun code n (h, (c, (dl, ((b0, ((v :: As).map some ++ List.replicate (xn m2 - (nA + 1)) none, [])), (b1, (ls, st')) :: fs)))) = some fin := hh4
    obtain ⟨r1, h1, c1, l1, l2, l3, ⟨k, hk, hrun⟩, w1⟩ := hI n (Nat.lt_succ_self n) b0 h c dl _ [] _ fin hh5
    rw [xpush_eq] at hrun
    obtain ⟨r, h2, c2, k1, k2, k3, k4, w2⟩ := hI k (by omega) b1 h1 c1 (dl + 1) ls (r1.toList ++ st') fs fin hrun
    rw [e0.1, e0.2] at w1
    rw [e1.1, e1.2] at w2
    refine ⟨r, h2, c2, Nat.le_trans l1 k1, Nat.le_trans l2 k2, fun q => k3 (l3 q), k4.mono (by omega), ?_⟩
    intro p e R s m args below meth cd H locs lsA cells slots mc ms X N g1 g2 g3 g4
    have vl : (v :: As).length = nA + 1 := by rw [List.length_cons, v1]
    rw [← vl] at w1
    have hM := xMet (mi := m2) (vs := v :: As) (c := c) (c' := c1) hS.2.2.2.2 (fun w hw => by
      rcases List.mem_cons.mp hw with z | z
      · rw [z, q2]; rfl
      · exact v3 w z) (by rw [vl]; exact hn.1) N.2.1 w1
    rw [hr] at hM
    have hR := va_runIN (host := host) (As := As.map (xval (xad base adS))) (b := xad base adS o) (rest := st'.map (xval (xad base adS))) (g := F0 m pc lsA (st.map (xval (xad base adS)))) (cc := xc mi) (nL := xn mi) (cells := cells) (slots := slots) (H := H) (locs := locs) (below := below) (meth := meth) (c := cd) (p := p) (e := e) (m := m)
      ⟨X.1, X.2.1, X.2.2.2.1, X.2.2.2.2.2.1, X.2.2.2.2.2.2.2.1⟩ hM ⟨xCallN hG X hS (hNw s X.2.2.2.2.2.2.2.2.2.1) hn.2, hin, X.2.2.2.2.2.2.2.1 _ hst⟩ ⟨xWd_blind hEv, fun U hU hW => ⟨by rw [q2]; rfl, xWd_of hEk hEm X N U hU hW⟩⟩ rfl (by rw [List.length_map]; exact v1) N.2.2.2.2.2.1 (by rw [v2, q1, q2, List.map_append, List.map_reverse]; rfl) (lv_room hsm) hd ⟨by omega, by omega⟩
    refine x_after hR N (l3 N.2.1) fun H1 locs1 N1 => ?_
    have hw := w2 p e R s m args below meth cd H1 locs1 lsA (cells + (c1.1 - c.1)) (slots + (c1.2 - c.2)) mc ms X N1 (by omega) (by omega) g3 g4
    rw [xmap_app] at hw
    exact hw
/-! a method that has handlers and comes to its end without them -/
theorem x_ofWH {y : MethodName} {ws ws' : List Cond} {rm : Room} {Pc : Array Value → State → Prop} {Qc : Array Value → State → Outcome → State → Prop} {mc ms : Nat} {free : Addr → Prop} {cc : ByteArray} {maxL : Nat} {ret : Option FieldType} {hh : List (Nat × Nat × Nat × Nat)}
    (hy : plainName y.cls = true) (hw : ws = Cond.codeWith y cc maxL ret hh :: ws')
    (body : ∀ p e s m args below meth c s₁, BodyLoose p l y (headSpec ws rm) cc maxL ret e s m args below meth c s₁ → c.maxLocals = maxL → Pc args s →
      W p l e (headSpec ws rm).room s m args below meth c s.heap [] 0 0 (MQ below Qc args s mc ms free) (entryFrame m args maxL)) : Met l y ws rm Pc Qc mc ms free := by
  refine MetFree.of_bodyS (code := cc) (maxLocals := maxL) (ret := ret) hy ?_ ?_
  · intro args s m h hn
    obtain ⟨m9, meth, c, hn9, h1, h2, h3, h4, -, h5, h6, -⟩ := Cond.codeWith_spec (atoms_spec (ws := ws) h _ (by rw [hw]; exact List.mem_cons_self))
    cases hn.symm.trans hn9
    exact ⟨meth, c, h1, h2, h3, h4, h5, h6⟩
  · intro p e s m args below meth c s₁ B hml hP _
    have hh0 : s₁.heap = s.heap := by rw [B.state]; rfl
    obtain ⟨t, a1, o, b1, b2, b3⟩ := body p e s m args below meth c s₁ B hml hP s₁ hh0 (Stand.of_body B)
    exact ⟨t, o, a1, b1, b2, ⟨b3.1, b3.2⟩⟩
theorem xMetW {hx : List (Nat × Nat × Nat × Nat)} {vs : List xV} {h h' : xBT xC d} {c c' : Nat × Nat} {r : xO} (hy : plainName (xy mi).cls = true) (hv : ∀ v ∈ vs, xlong v = false) (hn : vs.length ≤ xn mi) (hc : c.1 < 2 ^ d)
    (w : xWp l Dg cl tys cA fl ft base adS GW xy xc xn xr Ex d mi 0 dl h c (vs.map some ++ List.replicate (xn mi - vs.length) none) [] r h' c') :
    Met l (xy mi) (Cond.codeWith (xy mi) (xc mi) (xn mi) (xr mi) hx :: GW) ({ frames := dl + 2, cells := c'.1 - c.1, slots := c'.2 - c.2, locals := 64 * dl + 100 }) (va_Pc (vs.map (xval (xad base adS))) (fun U => xWd Dg cl tys cA fl ft base adS Ex d h c.1 U)) (xQ Dg cl tys cA fl ft base adS Ex d r h' c'.1) (c'.1 - c.1) (c'.2 - c.2) (fun q => base ≤ q) := by
  refine x_ofWH (cc := xc mi) (maxL := xn mi) (ret := xr mi) (hh := hx) hy rfl ?_
  intro p e s m args below meth cd s₁ B hml hv0
  obtain ⟨rfl, hsz, hP, hK, hE⟩ := hv0
  have hts := atoms_spec (ws := Cond.codeWith (xy mi) (xc mi) (xn mi) (xr mi) hx :: GW) B.pre
  rw [lg_entry_eq]
  exact w p e _ s m _ below meth cd s.heap [] _ 0 0 _ _ ⟨B.exec, B.bytes, B.returns, hml, B.notSynchronized, findClass_of_methodNamed B.named, (name_of_methodNamed B.named B.method).1, fun w hw => hts w (List.mem_cons_of_mem _ hw), hK, hE, by rw [hsz]; omega, Nat.le_refl _, Nat.le_refl _⟩ ⟨hsz, hc, hP, va_S.rf, xL_entry hv hn⟩ (Nat.zero_add _) (Nat.zero_add _) (Nat.le_refl _) (Nat.le_refl _)
theorem s_callvw {b0 b1 nA kc ci m2 index N0 : Nat} {C : String} {T : u_T} {pads : List xO} {hx : List (Nat × Nat × Nat × Nat)} (hI : xIH l Dg cl tys cA fl ft base adS GW xy xc xn xr Ex code bm bp (n + 1)) (hEk : ∀ (U : State) (H H1 : Heap), Ex U H → (∀ a, a < H.size → ¬ base ≤ a → H1[a]? = H[a]?) → Ex U H1) (hEm : ∀ (u U : State) (H : Heap), u.WarmedH U.vm → Ex u H → Ex U H) (hEv : ∀ (u U : State) (H : Heap), U.vm = u.vm → Ex u H → Ex U H) (hG : ∀ w ∈ GW, (w.onTables && w.keeps) = true ∨ ∃ ty, w = .arrayClass ty)
    (e0 : bm b0 = m2 ∧ bp b0 = 0) (e1 : bm b1 = mi ∧ bp b1 = pc + 3) (hp : pads = List.replicate (xn m2 - (nA + 1)) none) (hn : nA + 1 ≤ xn m2 ∧ xn m2 ≤ 45)
    (hS : Cond.methodLink (xy mi).cls index (xy m2) ∈ GW ∧ Cond.initialized (xy m2).cls ∈ GW ∧ Cond.codeWith (xy m2) (xc m2) (xn m2) (xr m2) hx ∈ GW ∧ ((xy m2).cls ≠ "java/lang/invoke/MethodHandle" ∧ (xy m2).cls ≠ "java/lang/invoke/VarHandle") ∧ (parseMethodDescriptor (xy m2).desc).map (fun d => d.parameters.length) = some nA ∧ plainName (xy m2).cls = true)
    (hst : Cond.instanceMethod (xy m2) ∈ GW ∧ Cond.selects C (xy m2) (xy m2) ∈ GW) (hkc : kc = ci + 8) (hcl : cl[ci]? = some (C, T, N0))
    (hd : decode (xc mi) pc = .ok (.invokevirtual index, 3)) : xSK l Dg cl tys cA fl ft base adS GW xy xc xn xr Ex code (n + 1) dl fs fin mi pc (h_callv b0 b1 nA kc pads dl fs (xrun code n)) := by
  subst hp
  subst hkc
  intro h c ls st hh
  obtain ⟨As, st1, v1, v2, v3, hh1⟩ := xargs_s hh
  obtain ⟨v, st', q1, hh2⟩ := xpop_s hh1
  obtain ⟨o, q2, hh3⟩ := xobj_s hh2
  obtain ⟨q3, hh4⟩ := xck_s hh3
  obtain ⟨q4, hh5⟩ := xck_s hh4
  obtain ⟨hsm, hh6⟩ := xsmall_s (ad := xad base adS) hh5
  have q3 := (blt_iff _ _).mp q3
  have q4 := Nat.eq_of_beq_eq_true q4
  cases dl with
  | zero => cases hh6
  | succ dl =>
    have hh7 : xrun code n (h, (c, (dl, ((b0, ((v :: As).map some ++ List.replicate (xn m2 - (nA + 1)) none, [])), (b1, (ls, st')) :: fs)))) = some fin := hh6
    obtain ⟨r1, h1, c1, l1, l2, l3, ⟨k, hk, hrun⟩, w1⟩ := hI n (Nat.lt_succ_self n) b0 h c dl _ [] _ fin hh7
    rw [xpush_eq] at hrun
    obtain ⟨r, h2, c2, k1, k2, k3, k4, w2⟩ := hI k (by omega) b1 h1 c1 (dl + 1) ls (r1.toList ++ st') fs fin hrun
    rw [e0.1, e0.2] at w1
    rw [e1.1, e1.2] at w2
    refine ⟨r, h2, c2, Nat.le_trans l1 k1, Nat.le_trans l2 k2, fun q => k3 (l3 q), k4.mono (by omega), ?_⟩
    intro p e R s m args below meth cd H locs lsA cells slots mc ms X N g1 g2 g3 g4
    have vl : (v :: As).length = nA + 1 := by rw [List.length_cons, v1]
    rw [← vl] at w1
    have hM := xMetW (hx := hx) (mi := m2) (vs := v :: As) (c := c) (c' := c1) hS.2.2.2.2.2 (fun w hw => by
      rcases List.mem_cons.mp hw with z | z
      · rw [z, q2]; rfl
      · exact v3 w z) (by rw [vl]; exact hn.1) N.2.1 w1
    have hrec := va_recv (q0 := o) (a := xad base adS o) X.2.2.2.2.2.2.2.2.1 N.2.2.1 hcl (by rw [xws_get q3, xcell_obj q4])
    have x8 := X.2.2.2.2.2.2.2.1
    have x12 := X.2.2.2.2.2.2.2.2.2.2.2.1
    have x13 := X.2.2.2.2.2.2.2.2.2.2.2.2
    have hR := vx_runVW (hh := hx) (As := As.map (xval (xad base adS))) (b := xad base adS o) (C := C) (rest := st'.map (xval (xad base adS))) (g := F0 m pc lsA (st.map (xval (xad base adS)))) (cc := xc mi) (nL := xn mi) (cells := cells) (slots := slots) (H := H) (locs := locs) (below := below) (meth := meth) (c := cd) (p := p) (e := e) (m := m)
      ⟨X.1, X.2.1, X.2.2.2.1, X.2.2.2.2.2.1, x8⟩ hM ⟨⟨rfl, rfl, by show dl + 2 + 1 ≤ _; omega, by show 8 + (xn m2 + 11) + (64 * dl + 100) ≤ _; omega, fun w hw a' U hW => by
        have hw2 : w ∈ GW := by
          rcases List.mem_cons.mp hw with z | z
          · rw [z]; exact hS.2.2.1
          · exact z
        exact word_at hW (hG w hw2) (x8 w hw2), List.mem_cons_self⟩, x8 _ hS.2.2.1, x8 _ hS.2.1, hS.2.2.2.1, fun sig hs => by
        have s5 := hS.2.2.2.2.1
        rw [hs] at s5
        exact (Option.some.inj s5).symm, x8 _ hS.1, x8 _ hst.1, x8 _ hst.2⟩ ⟨xWd_blind hEv, hrec, fun U hU hW => ⟨by rw [q2]; rfl, xWd_of hEk hEm X N U hU hW⟩⟩ rfl (by rw [List.length_map]; exact v1) N.2.2.2.2.2.1 (by rw [v2, q1, q2, List.map_append, List.map_reverse]; rfl) (lv_room hsm) hd ⟨by omega, by omega⟩
    refine x_after hR N (l3 N.2.1) fun H1 locs1 N1 => ?_
    have hw := w2 p e R s m args below meth cd H1 locs1 lsA (cells + (c1.1 - c.1)) (slots + (c1.2 - c.2)) mc ms X N1 (by omega) (by omega) g3 g4
    rw [xmap_app] at hw
    exact hw
end XCALL2
section XCALL3
variable {d : Nat} {fin : xE d} {i1 i2 : xS d → xR d}
theorem m_xargl {R : Type} {x : R} : ∀ {n : Nat} {st : List xV} {acc : List xO} {k k' : List xO → List xV → Option R}, (∀ acc st, k acc st = some x → k' acc st = some x) → xargl n st acc k = some x → xargl n st acc k' = some x
  | 0, st, acc, _, _, hk => hk acc st
  | n + 1, st, acc, k, k', hk => m_xpop (st := st) fun v t => m_xargl (n := n) (st := t) (acc := xcons v acc) (k := k) (k' := k') hk
theorem m_callL {b0 b1 nA nL : Nat} {pads : List xO} {dl : Nat} {fs : List xF} (hi : xIm fin i1 i2) : xKm fin (h_callL b0 b1 nA nL pads dl fs i1) (h_callL b0 b1 nA nL pads dl fs i2) := fun h c ls st => m_xargl (st := st) fun acc st => m_xck (m_xsmall (st := st) (m_xdown fun m => hi _))
end XCALL3

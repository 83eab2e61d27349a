/-! The law: its ground, its calls (begins with rows of the starting text laws/SKELETON). -/
def R_law : String := "ChoiceTongueLaw"
def lw_P (b : Addr) (xs : List Int32) (args : Array Value) (s : State) : Prop := args = #[.ref b] ∧ s.IntsAt b xs ∧ xs.length ≤ 6 ∧ (Jvm.Cond.and given_1 narrow_1).before args s = true
def lw_Q (_ : Array Value) (s : State) (o : Outcome) (t : State) : Prop := o = .returned (some (.int 1)) ∧ Framed s o t [] 157288 8630374
def lw_Z (below : List Frame) (a : Array Value) (s : State) : State → Prop := fun t => ∃ o, t.status = .running ∧ Ended t below o ∧ lw_Q a s o t
/-- the law's own end, with 1 on the stack, nothing written that was there before, its room as the claim has it -/
theorem lw_ret {p : Program} {l : Launch} {e : Env} {s : State} {m : MethodId} {below : List Frame} {meth : Method} {c : Code} {b : Nat} (hx : p.tables.exec = Jvm.exec) (hb : c.code = code) (hr : meth.sig.returnType = ret) (hlocks : meth.locks = false) {pc : Nat} {H : Heap} {ls : Array Slot} (hdg : decode code pc = .ok (.ireturn, 1)) : W p l e room_1 s m #[Value.ref b] below meth c H [] 157288 8630374 (lw_Z below #[Value.ref b] s) (F0 m pc ls [.int 1]) := by
  intro T hT X
  obtain ⟨fs, hret, hrun, hended, hW, hframe⟩ := X.leave (v := some (.int 1)) (hlocks := hlocks) (fun h => by rw [hr] at h; cases h)
  have hmeth' : T.vm.method? m = some meth := X.method'
  refine ⟨T.setFrames fs, ?_, .returned (some (.int 1)), hrun, hended, rfl, ⟨_, rfl⟩, hW, hframe⟩
  jvm_step X.here [X.here.top, hx, hb, hdg, hmeth', hr, ret, narrow_b1]
  (try refine ⟨rfl, ?_⟩); (try refine ⟨rfl, ?_⟩)
  first | (intro acts; rw [hret _ acts rfl rfl rfl]) | rw [hret _ _ rfl rfl rfl]
  exact Steps.refl _
/-- what holds at the law's entry: the machine, the code, the tables' words (any of lw_tbl by 'hts w (by decide +kernel)'), the script of L ints xs at the cell b, what the Statement gives of the start (any of its parts by flat_of_before) -/
def lw_At (p : Program) (s : State) (m : MethodId) (meth : Method) (c : Code) (b L : Nat) (xs : Nat → Int32) : Prop :=
  p.tables.exec = Jvm.exec ∧ c.code = code ∧ meth.sig.returnType = ret ∧ c.maxLocals = 7 ∧ s.vm.findClass R_law = some m.cls ∧ (∀ w ∈ lw_tbl, w.before #[Value.ref b] s = true) ∧ va_X b L xs s s.heap ∧ b < s.heap.size ∧ meth.locks = false ∧ (Jvm.Cond.and given_1 narrow_1).before #[Value.ref b] s = true

section LAW0
variable {p : Program} {l : Launch} {e : Env} {s : State} {m : MethodId} {below : List Frame} {meth : Method} {c : Code} {b : Nat}
variable {Dg : va_G} {cA adS : Nat → Nat} {H : Heap} {locs : List Loc} {cells slots : Nat} {Q : State → Prop} {ls : Array Slot} {lv : List (Nat × Value)} {rest : List Value} {pc n : Nat} {h h' : xBT xC 9}
/-- what the law rests on while it works -/
def lX (p : Program) (s : State) (m : MethodId) (meth : Method) (c : Code) (b : Nat) (Dg : va_G) (cA adS : Nat → Nat) : Prop :=
  p.tables.exec = Jvm.exec ∧ c.code = code ∧ c.maxLocals = 7 ∧ s.vm.findClass R_law = some m.cls ∧ (∀ w ∈ lw_tbl, w.before #[Value.ref b] s = true) ∧ va_K Dg clz (tysZ cA) s ∧ ExZ s.heap.size adS s s.heap ∧ meth.locks = false ∧ meth.sig.returnType = ret
/-- the systems' cells, and nothing old written -/
def lNow (Dg : va_G) (cA adS : Nat → Nat) (s : State) (h : xBT xC 9) (n : Nat) (H : Heap) (locs : List Loc) : Prop :=
  H.size = s.heap.size + n + xgap h ∧ n < 512 ∧ va_P Dg clz (xws (xad s.heap.size adS) cA flz ftz (xget 9 h) n) H ∧ va_S (fun q => s.heap.size ≤ q) s.heap H locs
theorem lNow.x (hN : lNow Dg cA adS s h n H locs) (hl : lv_has ls 7 lv) : xNow Dg clz cA flz ftz s.heap.size adS 9 h n 7 [none, none, none, none, none, none, none] s H locs ls :=
  ⟨hN.1, hN.2.1, hN.2.2.1, hN.2.2.2, rfl, lv_sub hl [] rfl⟩
theorem lNow.of {ls1 : Array Slot} {os : List xO} (hN : xNow Dg clz cA flz ftz s.heap.size adS 9 h n 7 os s H locs ls1) : lNow Dg cA adS s h n H locs := ⟨hN.1, hN.2.1, hN.2.2.1, hN.2.2.2.1⟩
theorem lNow.wd (hX : lX p s m meth c b Dg cA adS) (hN : lNow Dg cA adS s h n H locs) (U : State) (hU : U.heap = H) (hW : s.WarmedH U.vm) : xWd Dg clz (tysZ cA) cA flz ftz s.heap.size adS (ExZ s.heap.size adS) 9 h n U := by
  refine ⟨by rw [hU]; exact hN.1, by rw [hU]; exact hN.2.2.1, va_K.moved hW.alike hX.2.2.2.2.2.1, ?_⟩
  rw [hU]
  exact ExZ.warm hW (ExZ.kept hX.2.2.2.2.2.2.1 hN.2.2.2.2.1)
/-- what a call of the law wants of the words -/
def lSite (index : Nat) (y : MethodName) (cc : ByteArray) (nL : Nat) (rt : Option FieldType) (nA : Nat) : Prop :=
  (Cond.methodLink R_law index y ∈ lw_tbl ∧ Cond.initialized y.cls ∈ lw_tbl ∧ Cond.code y cc nL rt ∈ lw_tbl ∧ Cond.instanceMethod y ∈ lw_tbl) ∧ (y.cls ≠ "java/lang/invoke/MethodHandle" ∧ y.cls ≠ "java/lang/invoke/VarHandle") ∧ (parseMethodDescriptor y.desc).map (fun d => d.parameters.length) = some nA ∧ 8 + (nL + 11) + 1380 ≤ room_1.locals
theorem lCallB (hX : lX p s m meth c b Dg cA adS) {index nL nA mc ms : Nat} {y : MethodName} {cc : ByteArray} {rt : Option FieldType} (hS : lSite index y cc nL rt nA) : CallB room_1 s #[Value.ref b] R_law index y cc nL rt (Cond.code y cc nL rt :: GWz) ({ frames := 22, cells := mc, slots := ms, locals := 1380 }) mc ms nA := by
  have x8 := hX.2.2.2.2.1
  refine ⟨rfl, rfl, (show 22 + 1 ≤ room_1.frames by decide +kernel), hS.2.2.2, fun w hw a' U hW => ?_, List.mem_cons_self, x8 _ hS.1.2.2.1, x8 _ hS.1.2.1, hS.2.1, fun sig h => ?_, x8 _ hS.1.1⟩
  · rcases List.mem_cons.mp hw with z | z
    · rw [z]
      exact word_at hW (Or.inl rfl) (x8 _ hS.1.2.2.1)
    · exact word_at hW (goodz w z) (x8 w (sub_GWz w z))
  · have h5 := hS.2.2.1
    rw [h] at h5
    exact (Option.some.inj h5).symm
theorem lFix (hX : lX p s m meth c b Dg cA adS) : CallFix p m c code 7 s #[Value.ref b] lw_tbl R_law := ⟨hX.1, hX.2.1, hX.2.2.1, hX.2.2.2.1, hX.2.2.2.2.1⟩
/-- a call of an object's method, whose contract the machine gave -/
theorem l_callv (hX : lX p s m meth c b Dg cA adS) (hN : lNow Dg cA adS s h n H locs) (hl : lv_has ls 7 lv) {index nL nA mc ms o n' : Nat} {y : MethodName} {cc : ByteArray} {rt : Option FieldType} {r : xO} {As : List Value}
    (hM : Met l y (Cond.code y cc nL rt :: GWz) ({ frames := 22, cells := mc, slots := ms, locals := 1380 }) (va_Pc (.ref (xad s.heap.size adS o) :: As) (fun U => xWd Dg clz (tysZ cA) cA flz ftz s.heap.size adS (ExZ s.heap.size adS) 9 h n U)) (xQ Dg clz (tysZ cA) cA flz ftz s.heap.size adS (ExZ s.heap.size adS) 9 r h' n') mc ms (fun q => s.heap.size ≤ q))
    (hS : lSite index y cc nL rt nA) (hsel : Cond.selects y.cls y y ∈ lw_tbl) {ci N0 : Nat} {T : u_T} (hcl : clz[ci]? = some (y.cls, T, N0)) (ho : o < n) (hk : Prod.fst (xget 9 h o) = ci + 8) (hA : As.length = nA) (hn' : n' < 512) (hsm : (rest.map fun v => v.category).sum ≤ 8) (hd : decode code pc = .ok (.invokevirtual index, 3)) (hf : cells + mc ≤ room_1.cells ∧ slots + ms ≤ room_1.slots)
    (kk : ∀ (H1 : Heap) (locs1 : List Loc), lNow Dg cA adS s h' n' H1 locs1 → W p l e room_1 s m #[Value.ref b] below meth c H1 locs1 (cells + mc) (slots + ms) Q (F0 m (pc + 3) ls ((r.map (xval (xad s.heap.size adS))).toList ++ rest))) :
    W p l e room_1 s m #[Value.ref b] below meth c H locs cells slots Q (F0 m pc ls (As.reverse ++ .ref (xad s.heap.size adS o) :: rest)) := by
  have x8 := hX.2.2.2.2.1
  have hrec := va_recv (q0 := o) (a := xad s.heap.size adS o) hX.2.2.2.2.2.1 hN.2.2.1 hcl (by rw [xws_get ho, xcell_obj hk])
  have hR := va_runV (As := As) (b := xad s.heap.size adS o) (C := y.cls) (rest := rest) (g := F0 m pc ls (As.reverse ++ .ref (xad s.heap.size adS o) :: rest)) (cc := code) (nL := 7) (cells := cells) (slots := slots) (H := H) (locs := locs) (below := below) (meth := meth) (c := c) (p := p) (e := e) (m := m)
    (lFix hX) hM ⟨lCallB hX hS, x8 _ hS.1.2.2.2, x8 _ hsel⟩ ⟨xWd_blind (fun u U H hv hE => ExZ.same hv hE), hrec, fun U hU hW => ⟨rfl, hN.wd hX U hU hW⟩⟩ rfl hA hl.1 rfl (lv_room hsm) hd hf
  exact x_after hR (hN.x hl) hn' fun H1 locs1 N1 => kk H1 locs1 (lNow.of N1)
/-- a call of a constructor -/
theorem l_calli (hX : lX p s m meth c b Dg cA adS) (hN : lNow Dg cA adS s h n H locs) (hl : lv_has ls 7 lv) {index nL mc ms o n' : Nat} {y : MethodName} {cc : ByteArray} {r : xO}
    (hM : Met l y (Cond.code y cc nL none :: GWz) ({ frames := 22, cells := mc, slots := ms, locals := 1380 }) (va_Pc [.ref (xad s.heap.size adS o)] (fun U => xWd Dg clz (tysZ cA) cA flz ftz s.heap.size adS (ExZ s.heap.size adS) 9 h n U)) (xQ Dg clz (tysZ cA) cA flz ftz s.heap.size adS (ExZ s.heap.size adS) 9 r h' n') mc ms (fun q => s.heap.size ≤ q))
    (hS : lSite index y cc nL none 0) (hin : y.name = "<init>") (hn' : n' < 512) (hsm : (rest.map fun v => v.category).sum ≤ 8) (hd : decode code pc = .ok (.invokespecial index, 3)) (hf : cells + mc ≤ room_1.cells ∧ slots + ms ≤ room_1.slots)
    (kk : ∀ (H1 : Heap) (locs1 : List Loc), lNow Dg cA adS s h' n' H1 locs1 → W p l e room_1 s m #[Value.ref b] below meth c H1 locs1 (cells + mc) (slots + ms) Q (F0 m (pc + 3) ls ((r.map (xval (xad s.heap.size adS))).toList ++ rest))) :
    W p l e room_1 s m #[Value.ref b] below meth c H locs cells slots Q (F0 m pc ls (.ref (xad s.heap.size adS o) :: rest)) := by
  have x8 := hX.2.2.2.2.1
  have hR := va_runI (As := []) (b := xad s.heap.size adS o) (rest := rest) (g := F0 m pc ls (.ref (xad s.heap.size adS o) :: rest)) (cc := code) (nL := 7) (cells := cells) (slots := slots) (H := H) (locs := locs) (below := below) (meth := meth) (c := c) (p := p) (e := e) (m := m)
    (lFix hX) hM ⟨lCallB hX hS, hin, x8 _ hS.1.2.2.2⟩ ⟨xWd_blind (fun u U H hv hE => ExZ.same hv hE), fun U hU hW => ⟨rfl, hN.wd hX U hU hW⟩⟩ rfl rfl hl.1 rfl (lv_room hsm) hd hf
  exact x_after hR (hN.x hl) hn' fun H1 locs1 N1 => kk H1 locs1 (lNow.of N1)
/-- a new object in the law -/
theorem l_new (hX : lX p s m meth c b Dg cA adS) (hN : lNow Dg cA adS s h n H locs) (hl : lv_has ls 7 lv) {ci N index : Nat} {C : String} {T : u_T} {ty : Nat → FieldType} (hC : xCl clz flz GWz ci C T N ty) (hft : ∀ i, i < N → xfv (fun _ => 0) (ftz ci i) 0 = defaultValue (ty i)) (hw : Cond.classLink R_law index C ∈ lw_tbl ∧ Cond.instantiable C N ∈ lw_tbl ∧ Cond.initialized C ∈ lw_tbl) (hn : n < 506) (hg : xgap h = 0) (hd : decode code pc = .ok (.new index, 3)) (hf : cells + 1 ≤ room_1.cells ∧ slots + N ≤ room_1.slots)
    (kk : ∀ H1 : Heap, lNow Dg cA adS s (xset 9 h n (ci + 8, (0, 0))) (n + 1) H1 locs → W p l e room_1 s m #[Value.ref b] below meth c H1 locs (cells + 1) (slots + N) Q (F0 m (pc + 3) ls (.ref (xad s.heap.size adS n) :: rest))) :
    W p l e room_1 s m #[Value.ref b] below meth c H locs cells slots Q (F0 m pc ls rest) := by
  obtain ⟨k1, k2, k3, k4, k5⟩ := hC
  have x8 := hX.2.2.2.2.1
  have hKn := hX.2.2.2.2.2.1.1 ci _ k1
  refine W.newcK (n := N) (h := H.size) hX.1 hX.2.1 hX.2.2.2.1 (x8 _ hw.1) (x8 _ hw.2.1) (x8 _ hw.2.2) rfl hd hf.1 hf.2 hKn.2.1 rfl fun H1 kC hkC e1 z1 o1 => ?_
  have N2 := (hN.x hl).push (c1 := (ci + 8, (0, 0))) hd9z (by omega) hg (show va_at Dg clz (H.size, xcell (xad s.heap.size adS) cA flz ftz (ci + 8, (0, 0))) H1 from ⟨_, k1, (u_born ty (fun w hw => x8 w (sub_GWz w hw)) k3 hKn hkC e1 k4).to (fun i hi => by
    show defaultValue (ty i) = ((List.range (flz ci)).map (fun j => xfv (xad s.heap.size adS) (ftz ci j) (xd8 0 j))).getD i .null
    rw [List.getD_eq_getElem?_getD, List.getElem?_map, List.getElem?_range (by rw [k2]; exact hi)]
    show _ = xfv (xad s.heap.size adS) (ftz ci i) (xd8 0 i)
    rw [xd8_0 (by decide), ← hft i hi]
    match ftz ci i with
    | 0 => rfl
    | 1 => rfl
    | _ + 2 => rfl)⟩) z1 o1
  have hw2 := kk H1 (lNow.of N2)
  have n9 : H.size = s.heap.size + n := by rw [hN.1, hg, Nat.add_zero]
  rw [xad_in (by omega), ← n9] at hw2
  exact hw2
end LAW0

/-! Jumps, calls, ends. -/
noncomputable def xnil {R : Type} (st : List xV) (k : Option R) : Option R := List.rec (motive := fun _ => Option R) k (fun _ _ _ => none) st
theorem xnil_s {R : Type} {st : List xV} {k : Option R} {x : R} (h : xnil st k = some x) : st = [] ∧ k = some x := by
  cases st with
  | nil => exact ⟨rfl, h⟩
  | cons a t => cases h
noncomputable def xret {d : Nat} (dl : Nat) (fs : List xF) (ih : xS d → xR d) (h : xBT xC d) (c : Nat × Nat) : xR d := List.rec (motive := fun _ => xR d) (some (none, (h, c))) (fun f t _ => Prod.rec (motive := fun _ => xR d) (fun b u => Prod.rec (motive := fun _ => xR d) (fun ls st => ih (h, (c, (Nat.succ dl, ((b, (ls, st)), t))))) u) f) fs
noncomputable def xretv {d : Nat} (dl : Nat) (fs : List xF) (ih : xS d → xR d) (v : xV) (h : xBT xC d) (c : Nat × Nat) : xR d := List.rec (motive := fun _ => xR d) (some (some v, (h, c))) (fun f t _ => Prod.rec (motive := fun _ => xR d) (fun b u => Prod.rec (motive := fun _ => xR d) (fun ls st => ih (h, (c, (Nat.succ dl, ((b, (ls, v :: st)), t))))) u) f) fs
noncomputable def h_ret {d : Nat} (dl : Nat) (fs : List xF) (ih : xS d → xR d) : xK d := fun h c _ st => xnil st (xret dl fs ih h c)
noncomputable def h_iret {d : Nat} (dl : Nat) (fs : List xF) (ih : xS d → xR d) : xK d := fun h c _ st => xpop st (fun v st => xint v (fun _ => xnil st (xretv dl fs ih v h c)))
/-- a boolean method's end -/
noncomputable def h_zret {d : Nat} (dl : Nat) (fs : List xF) (ih : xS d → xR d) : xK d := fun h c _ st => xpop st (fun v st => xint v (fun a => xck (Nat.blt a 2) (xnil st (xretv dl fs ih v h c))))
noncomputable def h_aret {d : Nat} (dl : Nat) (fs : List xF) (ih : xS d → xR d) : xK d := fun h c _ st => xpop st (fun v st => xref v (fun _ => xnil st (xretv dl fs ih v h c)))
noncomputable def xargs {R : Type} (n : Nat) : List xV → List xO → (List xO → List xV → Option R) → Option R := Nat.rec (motive := fun _ => List xV → List xO → (List xO → List xV → Option R) → Option R) (fun st acc k => k acc st) (fun _ ih st acc k => xpop st (fun v t => xcat1 v (ih t (some v :: acc) k))) n
theorem xargs_s {R : Type} : ∀ {n : Nat} {st : List xV} {acc : List xO} {k : List xO → List xV → Option R} {x : R}, xargs n st acc k = some x → ∃ (vs st' : List xV), vs.length = n ∧ st = vs.reverse ++ st' ∧ (∀ v ∈ vs, xlong v = false) ∧ k (vs.map some ++ acc) st' = some x
  | 0, st, acc, k, x, h => ⟨[], st, rfl, rfl, (fun v hv => absurd hv List.not_mem_nil), h⟩
  | n + 1, st, acc, k, x, h => by
    obtain ⟨v, t, h1, h2⟩ := xpop_s (st := st) (k := fun v t => xcat1 v (xargs n t (some v :: acc) k)) h
    obtain ⟨h3, h4⟩ := xcat1_s h2
    obtain ⟨vs, st', e1, e2, e3, e4⟩ := xargs_s h4
    refine ⟨vs ++ [v], st', by simp [e1], by rw [h1, e2]; simp, fun w hw => ?_, by simpa using e4⟩
    rcases List.mem_append.mp hw with q | q
    · exact e3 w q
    · rw [List.mem_singleton.mp q]; exact h3
noncomputable def xsmall {R : Type} (n : Nat) : List xV → Option R → Option R := Nat.rec (motive := fun _ => List xV → Option R → Option R) (fun st k => xnil st k) (fun _ ih st k => List.rec (motive := fun _ => Option R) k (fun a t _ => xcat1 a (ih t k)) st) n
theorem xsmall_s {R : Type} {ad : Nat → Nat} : ∀ {n : Nat} {st : List xV} {k : Option R} {x : R}, xsmall n st k = some x → ((st.map (xval ad)).map fun v => v.category).sum ≤ n ∧ k = some x
  | 0, st, k, x, h => by
    obtain ⟨rfl, h1⟩ := xnil_s h
    exact ⟨Nat.le_refl _, h1⟩
  | n + 1, [], k, x, h => ⟨Nat.zero_le _, h⟩
  | n + 1, a :: t, k, x, h => by
    obtain ⟨h1, h2⟩ := xcat1_s (v := a) (k := xsmall n t k) h
    obtain ⟨h3, h4⟩ := xsmall_s (ad := ad) h2
    refine ⟨?_, h4⟩
    rw [List.map_cons, List.map_cons, List.sum_cons, xval_cat h1]
    omega
section XCALL
variable {l : Launch} {Dg : va_G} {cl : List vw_C} {tys : List (ClassId × FieldType)} {cA fl : Nat → Nat} {ft : Nat → Nat → Nat} {base : Nat} {adS : Nat → Nat} {GW : List Cond}
variable {xy : Nat → MethodName} {xc : Nat → ByteArray} {xn : Nat → Nat} {xr : Nat → Option FieldType} {Ex : State → Heap → Prop} {d e : Nat} {code : xBT (xB d) e} {bm bp : Nat → Nat}
variable {K n dl mi pc : Nat} {fs : List xF} {fin : xE d} {j k : xK d}
/-- all shorter runs are sound -/
def xIH (l : Launch) (Dg : va_G) (cl : List vw_C) (tys : List (ClassId × FieldType)) (cA fl : Nat → Nat) (ft : Nat → Nat → Nat) (base : Nat) (adS : Nat → Nat) (GW : List Cond) (xy : Nat → MethodName) (xc : Nat → ByteArray) (xn : Nat → Nat) (xr : Nat → Option FieldType) (Ex : State → Heap → Prop) {d e : Nat} (code : xBT (xB d) e) (bm bp : Nat → Nat) (K : Nat) : Prop :=
  ∀ (k : Nat), k < K → ∀ (b : Nat) (h : xBT xC d) (c : Nat × Nat) (dl : Nat) (ls : List xO) (st : List xV) (fs : List xF) (fin : xE d), xrun code k (h, (c, (dl, ((b, (ls, st)), fs)))) = some fin → xEnd l Dg cl tys cA fl ft base adS GW xy xc xn xr Ex code k (bm b) (bp b) dl fs fin h c ls st
theorem xThen.mono {K K' : Nat} {r : xO} {h' : xBT xC d} {c' : Nat × Nat} (hK : K ≤ K') (h : xThen code K dl fs fin r h' c') : xThen code K' dl fs fin r h' c' := by
  cases fs with
  | nil => exact h
  | cons f t =>
    obtain ⟨k, h1, h2⟩ := h
    exact ⟨k, Nat.lt_of_lt_of_le h1 hK, h2⟩
theorem s_jump {b : Nat} (hI : xIH l Dg cl tys cA fl ft base adS GW xy xc xn xr Ex code bm bp (n + 1)) (hm : bm b = mi) (hp : bp b = pc) : xSK l Dg cl tys cA fl ft base adS GW xy xc xn xr Ex code (n + 1) dl fs fin mi pc (xgo b dl fs (xrun code n)) := by
  subst hm
  subst hp
  intro h c ls st hh
  obtain ⟨r, h', c', l1, l2, l3, l4, w⟩ := hI n (Nat.lt_succ_self n) b h c dl ls st fs fin hh
  exact ⟨r, h', c', l1, l2, l3, l4.mono (Nat.le_succ n), w⟩
theorem xret_then {h : xBT xC d} {c : Nat × Nat} (hh : xret dl fs (xrun code n) h c = some fin) : xThen code (n + 1) dl fs fin none h c := by
  cases fs with
  | nil => exact (Option.some.inj hh).symm
  | cons f t =>
    obtain ⟨b, ls, st⟩ := f
    exact ⟨n, Nat.lt_succ_self n, hh⟩
theorem xretv_then {v : xV} {h : xBT xC d} {c : Nat × Nat} (hh : xretv dl fs (xrun code n) v h c = some fin) : xThen code (n + 1) dl fs fin (some v) h c := by
  cases fs with
  | nil => exact (Option.some.inj hh).symm
  | cons f t =>
    obtain ⟨b, ls, st⟩ := f
    exact ⟨n, Nat.lt_succ_self n, hh⟩
/-- at its end a method has what was promised -/
theorem xQ.of {p : Program} {R : Room} {s : State} {m : MethodId} {args : Array Value} {meth : Method} {cd : Code} {y : MethodName} {cc : ByteArray} {nL N : Nat} {ret : Option FieldType} {H : Heap} {locs : List Loc} {lsA : Array Slot} {ls : List xO} {h : xBT xC d} {r : xO} {o : Option Value} (ho : o = r.map (xval (xad base adS)))
    (hEk : ∀ (U : State) (H H1 : Heap), Ex U H → (∀ a, a < H.size → ¬ base ≤ a → H1[a]? = H[a]?) → Ex U H1) (hEm : ∀ (u U : State) (H : Heap), u.WarmedH U.vm → Ex u H → Ex U H)
    (X : xCtx Dg cl tys base GW Ex y cc nL ret dl p R s m args meth cd) (N1 : xNow Dg cl cA fl ft base adS d h N nL ls s H locs lsA) (t : State) (ht : t.heap = H) (hW : s.WarmedH t.vm) : xQ Dg cl tys cA fl ft base adS Ex d r h N args s (.returned o) t := by
  obtain ⟨n1, n2, n3, n4, n5⟩ := N1
  obtain ⟨x1, x2, x3, x4, x5, x6, x7, x8, x9, x10, x11, x12, x13⟩ := X
  refine ⟨by rw [ho], ⟨by rw [ht]; exact n1, by rw [ht]; exact n3, va_K.moved hW.alike x9, ?_⟩, n4.F ht⟩
  rw [ht]
  exact hEm s t H hW (hEk s s.heap H x10 n4.2.1)
theorem s_ret (hEk : ∀ (U : State) (H H1 : Heap), Ex U H → (∀ a, a < H.size → ¬ base ≤ a → H1[a]? = H[a]?) → Ex U H1) (hEm : ∀ (u U : State) (H : Heap), u.WarmedH U.vm → Ex u H → Ex U H) (hr : xr mi = none) (hd : decode (xc mi) pc = .ok (.return_, 1)) : xSK l Dg cl tys cA fl ft base adS GW xy xc xn xr Ex code (n + 1) dl fs fin mi pc (h_ret dl fs (xrun code n)) := by
  intro h c ls st hh
  obtain ⟨rfl, hh1⟩ := xnil_s hh
  refine ⟨none, h, c, Nat.le_refl _, Nat.le_refl _, fun q => q, xret_then hh1, ?_⟩
  intro p e R s m args below meth cd H locs lsA cells slots mc ms X N g1 g2 g3 g4
  rw [Nat.sub_self, Nat.add_zero] at g1 g2
  subst g1
  subst g2
  exact W.vret X.1 X.2.1 (X.2.2.1.trans hr) (fun t ht hW => xQ.of (r := none) (o := none) rfl hEk hEm X N t ht hW) N.2.2.2.1.2.2 hd X.2.2.2.2.1
theorem s_iret (hEk : ∀ (U : State) (H H1 : Heap), Ex U H → (∀ a, a < H.size → ¬ base ≤ a → H1[a]? = H[a]?) → Ex U H1) (hEm : ∀ (u U : State) (H : Heap), u.WarmedH U.vm → Ex u H → Ex U H) (hr : xr mi = some .int) (hd : decode (xc mi) pc = .ok (.ireturn, 1)) : xSK l Dg cl tys cA fl ft base adS GW xy xc xn xr Ex code (n + 1) dl fs fin mi pc (h_iret dl fs (xrun code n)) := by
  intro h c ls st hh
  obtain ⟨v, t, rfl, hh1⟩ := xpop_s hh
  obtain ⟨a, rfl, hh2⟩ := xint_s hh1
  obtain ⟨rfl, hh3⟩ := xnil_s hh2
  refine ⟨some (.inl a), h, c, Nat.le_refl _, Nat.le_refl _, fun q => q, xretv_then hh3, ?_⟩
  intro p e R s m args below meth cd H locs lsA cells slots mc ms X N g1 g2 g3 g4
  rw [Nat.sub_self, Nat.add_zero] at g1 g2
  subst g1
  subst g2
  exact W.iret (v := nI a) X.1 X.2.1 (X.2.2.1.trans hr) (fun t ht hW => xQ.of (r := some (.inl a)) (o := some (.int (nI a))) rfl hEk hEm X N t ht hW) N.2.2.2.1.2.2 hd X.2.2.2.2.1
theorem s_zret (hEk : ∀ (U : State) (H H1 : Heap), Ex U H → (∀ a, a < H.size → ¬ base ≤ a → H1[a]? = H[a]?) → Ex U H1) (hEm : ∀ (u U : State) (H : Heap), u.WarmedH U.vm → Ex u H → Ex U H) (hr : xr mi = some .boolean) (hd : decode (xc mi) pc = .ok (.ireturn, 1)) : xSK l Dg cl tys cA fl ft base adS GW xy xc xn xr Ex code (n + 1) dl fs fin mi pc (h_zret dl fs (xrun code n)) := by
  intro h c ls st hh
  obtain ⟨v, t, rfl, hh1⟩ := xpop_s hh
  obtain ⟨a, rfl, hh2⟩ := xint_s hh1
  obtain ⟨ha, hh3⟩ := xck_s hh2
  obtain ⟨rfl, hh4⟩ := xnil_s hh3
  have ha := (blt_iff _ _).mp ha
  have hn : narrow .boolean (.int (nI a)) = .int (nI a) := by
    rcases (show a = 0 ∨ a = 1 by omega) with rfl | rfl <;> rfl
  refine ⟨some (.inl a), h, c, Nat.le_refl _, Nat.le_refl _, fun q => q, xretv_then hh4, ?_⟩
  intro p e R s m args below meth cd H locs lsA cells slots mc ms X N g1 g2 g3 g4
  rw [Nat.sub_self, Nat.add_zero] at g1 g2
  subst g1
  subst g2
  exact W.zret (v := nI a) X.1 X.2.1 (X.2.2.1.trans hr) hn (fun t ht hW => xQ.of (r := some (.inl a)) (o := some (.int (nI a))) rfl hEk hEm X N t ht hW) N.2.2.2.1.2.2 hd X.2.2.2.2.1
theorem s_aret {rt : FieldType} (hrt : (∃ n, rt = .object n) ∨ ∃ t, rt = .array t) (hEk : ∀ (U : State) (H H1 : Heap), Ex U H → (∀ a, a < H.size → ¬ base ≤ a → H1[a]? = H[a]?) → Ex U H1) (hEm : ∀ (u U : State) (H : Heap), u.WarmedH U.vm → Ex u H → Ex U H) (hr : xr mi = some rt) (hd : decode (xc mi) pc = .ok (.areturn, 1)) : xSK l Dg cl tys cA fl ft base adS GW xy xc xn xr Ex code (n + 1) dl fs fin mi pc (h_aret dl fs (xrun code n)) := by
  intro h c ls st hh
  obtain ⟨v, t, rfl, hh1⟩ := xpop_s hh
  obtain ⟨a, rfl, hh2⟩ := xref_s hh1
  obtain ⟨rfl, hh3⟩ := xnil_s hh2
  refine ⟨some (.inr (.inr a)), h, c, Nat.le_refl _, Nat.le_refl _, fun q => q, xretv_then hh3, ?_⟩
  intro p e R s m args below meth cd H locs lsA cells slots mc ms X N g1 g2 g3 g4
  rw [Nat.sub_self, Nat.add_zero] at g1 g2
  subst g1
  subst g2
  exact W.aret (v := xval (xad base adS) (.inr (.inr a))) X.1 X.2.1 (X.2.2.1.trans hr) hrt (by cases a with | zero => exact Or.inl rfl | succ q => exact Or.inr ⟨_, rfl⟩) (fun t ht hW => xQ.of (r := some (.inr (.inr a))) (o := some (xval (xad base adS) (.inr (.inr a)))) rfl hEk hEm X N t ht hW) N.2.2.2.1.2.2 hd X.2.2.2.2.1
end XCALL

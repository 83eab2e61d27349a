/-! The machine: registers, frames, runs; and what a run says of the walk. -/
abbrev xF : Type := Nat × (List xO × List xV)
abbrev xS (d : Nat) : Type := xBT xC d × ((Nat × Nat) × (Nat × (xF × List xF)))
abbrev xE (d : Nat) : Type := xO × (xBT xC d × (Nat × Nat))
abbrev xR (d : Nat) : Type := Option (xE d)
abbrev xK (d : Nat) : Type := xBT xC d → (Nat × Nat) → List xO → List xV → xR d
/-- a block: with the depth that is left, the frames below, the run that goes on -/
abbrev xB (d : Nat) : Type := Nat → List xF → (xS d → xR d) → xK d
noncomputable def xgo {d : Nat} (b : Nat) (dl : Nat) (fs : List xF) (ih : xS d → xR d) : xK d := fun h c ls st => ih (h, (c, (dl, ((b, (ls, st)), fs))))
/-- n blocks of the code -/
noncomputable def xrun {d e : Nat} (code : xBT (xB d) e) (n : Nat) : xS d → xR d := Nat.rec (motive := fun _ => xS d → xR d) (fun _ => none) (fun _ ih S => Prod.rec (motive := fun _ => xR d) (fun h S1 => Prod.rec (motive := fun _ => xR d) (fun c S2 => Prod.rec (motive := fun _ => xR d) (fun dl S3 => Prod.rec (motive := fun _ => xR d) (fun f fs => Prod.rec (motive := fun _ => xR d) (fun b u => Prod.rec (motive := fun _ => xR d) (fun ls st => xget e code b dl fs ih h c ls st) u) f) S3) S2) S1) S) n
theorem xrun_succ {d e : Nat} (code : xBT (xB d) e) (n : Nat) (h : xBT xC d) (c : Nat × Nat) (dl b : Nat) (ls : List xO) (st : List xV) (fs : List xF) : xrun code (n + 1) (h, (c, (dl, ((b, (ls, st)), fs)))) = xget e code b dl fs (xrun code n) h c ls st := rfl
/-! pieces that instructions are made of -/
noncomputable def xpop {R : Type} (st : List xV) (k : xV → List xV → Option R) : Option R := List.rec (motive := fun _ => Option R) none (fun a t _ => k a t) st
noncomputable def xint {R : Type} (v : xV) (k : Nat → Option R) : Option R := Sum.rec (motive := fun _ => Option R) k (fun _ => none) v
noncomputable def xref {R : Type} (v : xV) (k : Nat → Option R) : Option R := Sum.rec (motive := fun _ => Option R) (fun _ => none) (fun u => Sum.rec (motive := fun _ => Option R) (fun _ => none) k u) v
/-- no null -/
noncomputable def xobj {R : Type} (v : xV) (k : Nat → Option R) : Option R := xref v (fun r => Nat.rec (motive := fun _ => Option R) none (fun m _ => k m) r)
noncomputable def xlg {R : Type} (i : Nat) : List xO → (xV → Option R) → Option R := Nat.rec (motive := fun _ => List xO → (xV → Option R) → Option R) (fun ls k => List.rec (motive := fun _ => Option R) none (fun a _ _ => Option.rec (motive := fun _ => Option R) none k a) ls) (fun _ ih ls k => List.rec (motive := fun _ => Option R) none (fun _ t _ => ih t k) ls) i
noncomputable def xlp {R : Type} (i : Nat) : List xO → xV → (List xO → Option R) → Option R := Nat.rec (motive := fun _ => List xO → xV → (List xO → Option R) → Option R) (fun ls v k => List.rec (motive := fun _ => Option R) none (fun _ t _ => k (some v :: t)) ls) (fun _ ih ls v k => List.rec (motive := fun _ => Option R) none (fun a t _ => ih t v (fun t' => k (a :: t'))) ls) i
noncomputable def xck {R : Type} (b : Bool) (k : Option R) : Option R := xif b k none
theorem xpop_s {R : Type} {st : List xV} {k : xV → List xV → Option R} {x : R} (h : xpop st k = some x) : ∃ v t, st = v :: t ∧ k v t = some x := by
  cases st with
  | nil => cases h
  | cons v t => exact ⟨v, t, rfl, h⟩
theorem xint_s {R : Type} {v : xV} {k : Nat → Option R} {x : R} (h : xint v k = some x) : ∃ n, v = .inl n ∧ k n = some x := by
  cases v with
  | inl n => exact ⟨n, rfl, h⟩
  | inr u => cases h
theorem xref_s {R : Type} {v : xV} {k : Nat → Option R} {x : R} (h : xref v k = some x) : ∃ n, v = .inr (.inr n) ∧ k n = some x := by
  cases v with
  | inl n => cases h
  | inr u =>
    cases u with
    | inl n => cases h
    | inr n => exact ⟨n, rfl, h⟩
theorem xobj_s {R : Type} {v : xV} {k : Nat → Option R} {x : R} (h : xobj v k = some x) : ∃ n, v = .inr (.inr (n + 1)) ∧ k n = some x := by
  obtain ⟨n, rfl, h⟩ := xref_s h
  cases n with
  | zero => cases h
  | succ n => exact ⟨n, rfl, h⟩
theorem xlg_s {R : Type} : ∀ {i : Nat} {ls : List xO} {k : xV → Option R} {x : R}, xlg i ls k = some x → ∃ v, ls[i]? = some (some v) ∧ k v = some x
  | 0, [], k, x, h => by cases h
  | 0, none :: t, k, x, h => by cases h
  | 0, some v :: t, k, x, h => ⟨v, rfl, h⟩
  | i + 1, [], k, x, h => by cases h
  | i + 1, a :: t, k, x, h => by
    obtain ⟨v, h1, h2⟩ := xlg_s (i := i) (ls := t) (k := k) (x := x) h
    exact ⟨v, by rw [List.getElem?_cons_succ]; exact h1, h2⟩
theorem xlp_s {R : Type} : ∀ {i : Nat} {ls : List xO} {v : xV} {k : List xO → Option R} {x : R}, xlp i ls v k = some x → i < ls.length ∧ k (ls.set i (some v)) = some x
  | 0, [], v, k, x, h => by cases h
  | 0, a :: t, v, k, x, h => ⟨Nat.succ_pos _, h⟩
  | i + 1, [], v, k, x, h => by cases h
  | i + 1, a :: t, v, k, x, h => by
    obtain ⟨h1, h2⟩ := xlp_s (i := i) (ls := t) (v := v) (k := fun t' => k (a :: t')) (x := x) h
    exact ⟨Nat.succ_lt_succ h1, h2⟩
theorem xck_s {R : Type} {b : Bool} {k : Option R} {x : R} (h : xck b k = some x) : b = true ∧ k = some x := by
  cases b with
  | false => cases h
  | true => exact ⟨rfl, h⟩
/-- what comes back is put on the stack of the frame below -/
noncomputable def xpush (r : xO) (f : xF) : xF := (Prod.fst f, (Prod.fst (Prod.snd f), Option.rec (motive := fun _ => List xV) (Prod.snd (Prod.snd f)) (fun v => v :: Prod.snd (Prod.snd f)) r))
theorem xpush_eq (r : xO) (b : Nat) (ls : List xO) (st : List xV) : xpush r (b, (ls, st)) = (b, (ls, r.toList ++ st)) := by
  cases r <;> rfl
def xad (base : Nat) (adS : Nat → Nat) (k : Nat) : Nat := if k < 1000 then base + k else adS (k - 1000)
section XM
variable {l : Launch} {Dg : va_G} {cl : List vw_C} {tys : List (ClassId × FieldType)} {cA fl : Nat → Nat} {ft : Nat → Nat → Nat} {base : Nat} {adS : Nat → Nat} {GW : List Cond}
variable {bm bp : Nat → Nat} {xy : Nat → MethodName} {xc : Nat → ByteArray} {xn : Nat → Nat} {xr : Nat → Option FieldType} {Ex : State → Heap → Prop} {d e : Nat} {code : xBT (xB d) e}
/-- how many cells of others stand behind the machine's: the last leaf tells it -/
noncomputable def xgap {d : Nat} (h : xBT xC d) : Nat := Prod.fst (Prod.snd (xget d h (Nat.pred (2 ^ d))))
theorem xgap_set {d : Nat} {h : xBT xC d} {q : Nat} {c : xC} (hq : q + 1 < 2 ^ d) : xgap (xset d h q c) = xgap h := by
  unfold xgap
  have e : Nat.pred (2 ^ d) = 2 ^ d - 1 := rfl
  rw [e, xget_set d h q (2 ^ d - 1) c (by omega) (by omega), if_neg (by omega)]
/-- the machine's heap stands in the heap -/
def xWd (Dg : va_G) (cl : List vw_C) (tys : List (ClassId × FieldType)) (cA fl : Nat → Nat) (ft : Nat → Nat → Nat) (base : Nat) (adS : Nat → Nat) (Ex : State → Heap → Prop) (d : Nat) (h : xBT xC d) (n : Nat) (U : State) : Prop :=
  U.heap.size = base + n + xgap h ∧ va_P Dg cl (xws (xad base adS) cA fl ft (xget d h) n) U.heap ∧ va_K Dg cl tys U ∧ Ex U U.heap
/-- an exact end -/
def xQ (Dg : va_G) (cl : List vw_C) (tys : List (ClassId × FieldType)) (cA fl : Nat → Nat) (ft : Nat → Nat → Nat) (base : Nat) (adS : Nat → Nat) (Ex : State → Heap → Prop) (d : Nat) (r : xO) (h : xBT xC d) (n : Nat) : Array Value → State → Outcome → State → Prop := fun _ st oc t =>
  oc = .returned (r.map (xval (xad base adS))) ∧ xWd Dg cl tys cA fl ft base adS Ex d h n t ∧ va_F (fun q => base ≤ q) st t
/-- the method around: what stays while it runs -/
def xCtx (Dg : va_G) (cl : List vw_C) (tys : List (ClassId × FieldType)) (base : Nat) (GW : List Cond) (Ex : State → Heap → Prop) (y : MethodName) (cc : ByteArray) (nL : Nat) (ret : Option FieldType) (dl : Nat) (p : Program) (R : Room) (s : State) (m : MethodId) (args : Array Value) (meth : Method) (c : Code) : Prop :=
  p.tables.exec = Jvm.exec ∧ c.code = cc ∧ meth.sig.returnType = ret ∧ c.maxLocals = nL ∧ meth.locks = false ∧ s.vm.findClass y.cls = some m.cls ∧ meth.name = y.name ∧ (∀ w ∈ GW, w.before args s = true) ∧ va_K Dg cl tys s ∧ Ex s s.heap ∧ base ≤ s.heap.size ∧ dl + 2 ≤ R.frames ∧ 64 * dl + 100 ≤ R.locals
/-- where it stands now -/
def xNow (Dg : va_G) (cl : List vw_C) (cA fl : Nat → Nat) (ft : Nat → Nat → Nat) (base : Nat) (adS : Nat → Nat) (d : Nat) (h : xBT xC d) (n : Nat) (nL : Nat) (ls : List xO) (s : State) (H : Heap) (locs : List Loc) (lsA : Array Slot) : Prop :=
  H.size = base + n + xgap h ∧ n < 2 ^ d ∧ va_P Dg cl (xws (xad base adS) cA fl ft (xget d h) n) H ∧ va_S (fun q => base ≤ q) s.heap H locs ∧ xL (xad base adS) lsA nL ls
/-- from here the method comes to its end: the answer, the heap then -/
def xWp (l : Launch) (Dg : va_G) (cl : List vw_C) (tys : List (ClassId × FieldType)) (cA fl : Nat → Nat) (ft : Nat → Nat → Nat) (base : Nat) (adS : Nat → Nat) (GW : List Cond) (xy : Nat → MethodName) (xc : Nat → ByteArray) (xn : Nat → Nat) (xr : Nat → Option FieldType) (Ex : State → Heap → Prop) (d : Nat) (mi pc dl : Nat) (h : xBT xC d) (c : Nat × Nat) (ls : List xO) (st : List xV) (r : xO) (h' : xBT xC d) (c' : Nat × Nat) : Prop :=
  ∀ (p : Program) (e : Env) (R : Room) (s : State) (m : MethodId) (args : Array Value) (below : List Frame) (meth : Method) (cd : Code) (H : Heap) (locs : List Loc) (lsA : Array Slot) (cells slots mc ms : Nat),
    xCtx Dg cl tys base GW Ex (xy mi) (xc mi) (xn mi) (xr mi) dl p R s m args meth cd → xNow Dg cl cA fl ft base adS d h c.1 (xn mi) ls s H locs lsA →
    cells + (c'.1 - c.1) = mc → slots + (c'.2 - c.2) = ms → mc ≤ R.cells → ms ≤ R.slots →
    W p l e R s m args below meth cd H locs cells slots (MQ below (xQ Dg cl tys cA fl ft base adS Ex d r h' c'.1) args s mc ms (fun q => base ≤ q)) (F0 m pc lsA (st.map (xval (xad base adS))))
def xThen {d e : Nat} (code : xBT (xB d) e) (K dl : Nat) (fs : List xF) (fin : xE d) (r : xO) (h' : xBT xC d) (c' : Nat × Nat) : Prop := match fs with
  | [] => fin = (r, (h', c'))
  | f :: fs => ∃ k, k < K ∧ xrun code k (h', (c', (dl + 1, (xpush r f, fs)))) = some fin
def xEnd (l : Launch) (Dg : va_G) (cl : List vw_C) (tys : List (ClassId × FieldType)) (cA fl : Nat → Nat) (ft : Nat → Nat → Nat) (base : Nat) (adS : Nat → Nat) (GW : List Cond) (xy : Nat → MethodName) (xc : Nat → ByteArray) (xn : Nat → Nat) (xr : Nat → Option FieldType) (Ex : State → Heap → Prop) {d e : Nat} (code : xBT (xB d) e) (K : Nat) (mi pc dl : Nat) (fs : List xF) (fin : xE d) (h : xBT xC d) (c : Nat × Nat) (ls : List xO) (st : List xV) : Prop :=
  ∃ (r : xO) (h' : xBT xC d) (c' : Nat × Nat), c.1 ≤ c'.1 ∧ c.2 ≤ c'.2 ∧ (c.1 < 2 ^ d → c'.1 < 2 ^ d) ∧ xThen code K dl fs fin r h' c' ∧ xWp l Dg cl tys cA fl ft base adS GW xy xc xn xr Ex d mi pc dl h c ls st r h' c'
/-- a continuation is sound at a place -/
def xSK (l : Launch) (Dg : va_G) (cl : List vw_C) (tys : List (ClassId × FieldType)) (cA fl : Nat → Nat) (ft : Nat → Nat → Nat) (base : Nat) (adS : Nat → Nat) (GW : List Cond) (xy : Nat → MethodName) (xc : Nat → ByteArray) (xn : Nat → Nat) (xr : Nat → Option FieldType) (Ex : State → Heap → Prop) {d e : Nat} (code : xBT (xB d) e) (K dl : Nat) (fs : List xF) (fin : xE d) (mi pc : Nat) (k : xK d) : Prop :=
  ∀ (h : xBT xC d) (c : Nat × Nat) (ls : List xO) (st : List xV), k h c ls st = some fin → xEnd l Dg cl tys cA fl ft base adS GW xy xc xn xr Ex code K mi pc dl fs fin h c ls st
/-- one instruction that makes nothing and keeps the heap -/
theorem xSK.pure {K dl mi pc pc' : Nat} {fs : List xF} {fin : xE d} {k k' : xK d} (hk : xSK l Dg cl tys cA fl ft base adS GW xy xc xn xr Ex code K dl fs fin mi pc' k)
    (hs : ∀ (h : xBT xC d) (c : Nat × Nat) (ls : List xO) (st : List xV), k' h c ls st = some fin → ∃ (ls1 : List xO) (st1 : List xV), k h c ls1 st1 = some fin ∧
      ∀ (p : Program) (e : Env) (R : Room) (s : State) (m : MethodId) (args : Array Value) (below : List Frame) (meth : Method) (cd : Code) (H : Heap) (locs : List Loc) (lsA : Array Slot) (cells slots : Nat) (Q : State → Prop),
        xCtx Dg cl tys base GW Ex (xy mi) (xc mi) (xn mi) (xr mi) dl p R s m args meth cd → xNow Dg cl cA fl ft base adS d h c.1 (xn mi) ls s H locs lsA →
        (∀ lsA1 : Array Slot, xL (xad base adS) lsA1 (xn mi) ls1 → W p l e R s m args below meth cd H locs cells slots Q (F0 m pc' lsA1 (st1.map (xval (xad base adS))))) →
        W p l e R s m args below meth cd H locs cells slots Q (F0 m pc lsA (st.map (xval (xad base adS))))) :
    xSK l Dg cl tys cA fl ft base adS GW xy xc xn xr Ex code K dl fs fin mi pc k' := by
  intro h c ls st he
  obtain ⟨ls1, st1, h1, h2⟩ := hs h c ls st he
  obtain ⟨r, h', c', l1, l2, l3, l4, w⟩ := hk h c ls1 st1 h1
  refine ⟨r, h', c', l1, l2, l3, l4, ?_⟩
  intro p e R s m args below meth cd H locs lsA cells slots mc ms X N g1 g2 g3 g4
  exact h2 p e R s m args below meth cd H locs lsA cells slots _ X N (fun lsA1 hl => w p e R s m args below meth cd H locs lsA1 cells slots mc ms X ⟨N.1, N.2.1, N.2.2.1, N.2.2.2.1, hl⟩ g1 g2 g3 g4)
end XM

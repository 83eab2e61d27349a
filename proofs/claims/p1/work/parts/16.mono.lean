/-! A run from another base; what it gives, a base that gives as much gives too. Long runs are cut at states so. -/
noncomputable def xstep {d e : Nat} (code : xBT (xB d) e) (ih : xS d → xR d) : xS d → xR d := fun S => Prod.rec (motive := fun _ => xR d) (fun h S1 => Prod.rec (motive := fun _ => xR d) (fun c S2 => Prod.rec (motive := fun _ => xR d) (fun dl S3 => Prod.rec (motive := fun _ => xR d) (fun f fs => Prod.rec (motive := fun _ => xR d) (fun b u => Prod.rec (motive := fun _ => xR d) (fun ls st => xget e code b dl fs ih h c ls st) u) f) S3) S2) S1) S
noncomputable def xrunk {d e : Nat} (code : xBT (xB d) e) (base : xS d → xR d) (n : Nat) : xS d → xR d := Nat.rec (motive := fun _ => xS d → xR d) base (fun _ ih => xstep code ih) n
theorem xrun_step {d e : Nat} (code : xBT (xB d) e) (n : Nat) : xrun code (n + 1) = xstep code (xrun code n) := rfl
theorem xrunk_step {d e : Nat} (code : xBT (xB d) e) (base : xS d → xR d) (n : Nat) : xrunk code base (n + 1) = xstep code (xrunk code base n) := rfl
theorem xrunk_run {d e : Nat} (code : xBT (xB d) e) (n : Nat) : ∀ m : Nat, xrunk code (xrun code n) m = xrun code (m + n)
  | 0 => by rw [Nat.zero_add]; rfl
  | m + 1 => by rw [xrunk_step, xrunk_run code n m, Nat.add_right_comm, xrun_step]
/-! pieces -/
section XM1
variable {R : Type} {x : R}
theorem m_xif {c : Bool} {a a' b b' : Option R} (ha : a = some x → a' = some x) (hb : b = some x → b' = some x) : xif c a b = some x → xif c a' b' = some x := by
  cases c
  · exact hb
  · exact ha
theorem m_xck {c : Bool} {a a' : Option R} (ha : a = some x → a' = some x) : xck c a = some x → xck c a' = some x := m_xif ha id
theorem m_xst {n : Nat} {k k' : Nat → Option R} (hk : ∀ n, k n = some x → k' n = some x) : xst n k = some x → xst n k' = some x := by
  rw [xst_eq, xst_eq]
  exact hk n
theorem m_xsetK {α : Type} {d : Nat} {t : xBT α d} {i : Nat} {a : α} {k k' : xBT α d → Option R} (hk : ∀ t, k t = some x → k' t = some x) : xsetK d t i a k = some x → xsetK d t i a k' = some x := by
  rw [xsetK_eq, xsetK_eq]
  exact hk _
theorem m_xpop {st : List xV} {k k' : xV → List xV → Option R} (hk : ∀ v t, k v t = some x → k' v t = some x) : xpop st k = some x → xpop st k' = some x := by
  cases st with
  | nil => exact id
  | cons v t => exact hk v t
theorem m_xint {v : xV} {k k' : Nat → Option R} (hk : ∀ n, k n = some x → k' n = some x) : xint v k = some x → xint v k' = some x := by
  cases v with
  | inl n => exact hk n
  | inr u => exact id
theorem m_xref {v : xV} {k k' : Nat → Option R} (hk : ∀ n, k n = some x → k' n = some x) : xref v k = some x → xref v k' = some x := by
  cases v with
  | inl n => exact id
  | inr u =>
    cases u with
    | inl n => exact id
    | inr n => exact hk n
theorem m_xobj {v : xV} {k k' : Nat → Option R} (hk : ∀ n, k n = some x → k' n = some x) : xobj v k = some x → xobj v k' = some x :=
  m_xref fun n => by
    cases n with
    | zero => exact id
    | succ n => exact hk n
theorem m_xcat1 {v : xV} {a a' : Option R} (ha : a = some x → a' = some x) : xcat1 v a = some x → xcat1 v a' = some x := by
  cases v with
  | inl n => exact ha
  | inr u =>
    cases u with
    | inl n => exact id
    | inr n => exact ha
theorem m_xnil {st : List xV} {a a' : Option R} (ha : a = some x → a' = some x) : xnil st a = some x → xnil st a' = some x := by
  cases st with
  | nil => exact ha
  | cons v t => exact id
theorem m_xlg : ∀ {i : Nat} {ls : List xO} {k k' : xV → Option R}, (∀ v, k v = some x → k' v = some x) → xlg i ls k = some x → xlg i ls k' = some x
  | 0, [], _, _, _ => id
  | 0, none :: _, _, _, _ => id
  | 0, some v :: _, _, _, hk => hk v
  | i + 1, [], _, _, _ => id
  | i + 1, _ :: t, k, k', hk => m_xlg (i := i) (ls := t) (k := k) (k' := k') hk
theorem m_xlp : ∀ {i : Nat} {ls : List xO} {v : xV} {k k' : List xO → Option R}, (∀ ls, k ls = some x → k' ls = some x) → xlp i ls v k = some x → xlp i ls v k' = some x
  | 0, [], _, _, _, _ => id
  | 0, _ :: t, v, _, _, hk => hk (some v :: t)
  | i + 1, [], _, _, _, _ => id
  | i + 1, a :: t, v, k, k', hk => m_xlp (i := i) (ls := t) (v := v) (k := fun t' => k (a :: t')) (k' := fun t' => k' (a :: t')) (fun t' => hk (a :: t'))
theorem m_xargs : ∀ {n : Nat} {st : List xV} {acc : List xO} {k k' : List xO → List xV → Option R}, (∀ acc st, k acc st = some x → k' acc st = some x) → xargs n st acc k = some x → xargs n st acc k' = some x
  | 0, st, acc, _, _, hk => hk acc st
  | n + 1, st, acc, k, k', hk => m_xpop (st := st) fun v t => m_xcat1 (v := v) (m_xargs (n := n) (st := t) (acc := some v :: acc) (k := k) (k' := k') hk)
theorem m_xsmall : ∀ {n : Nat} {st : List xV} {a a' : Option R}, (a = some x → a' = some x) → xsmall n st a = some x → xsmall n st a' = some x
  | 0, st, a, a', ha => m_xnil (st := st) ha
  | n + 1, [], a, a', ha => ha
  | n + 1, v :: t, a, a', ha => m_xcat1 (v := v) (m_xsmall (n := n) (st := t) ha)
theorem m_xcls {kc : Nat} {c : xC} {k k' : Nat → Option R} (hk : ∀ A, k A = some x → k' A = some x) : xcls kc c k = some x → xcls kc c k' = some x := by
  obtain ⟨kd, m, A⟩ := c
  exact m_xck (hk A)
theorem m_xrow {kc : Nat} {c : xC} {k k' : Nat → Nat → Option R} (hk : ∀ m A, k m A = some x → k' m A = some x) : xrow kc c k = some x → xrow kc c k' = some x := by
  obtain ⟨kd, m, A⟩ := c
  exact m_xck (hk m A)
theorem m_xtx {lo nS r : Nat} {k k' : Nat → Option R} (hk : ∀ j, k j = some x → k' j = some x) : xtx lo nS r k = some x → xtx lo nS r k' = some x := m_xck (m_xck (hk _))
end XM1
/-! instructions -/
section XM2
variable {d : Nat} {fin : xE d}
def xKm (fin : xE d) (k k' : xK d) : Prop := ∀ h c ls st, k h c ls st = some fin → k' h c ls st = some fin
def xIm (fin : xE d) (i i' : xS d → xR d) : Prop := ∀ S, i S = some fin → i' S = some fin
variable {k k' j j' : xK d} {i1 i2 : xS d → xR d}
theorem m_xdown {dl : Nat} {k k' : Nat → xR d} (hk : ∀ n, k n = some fin → k' n = some fin) : xdown dl k = some fin → xdown dl k' = some fin := by
  cases dl with
  | zero => exact id
  | succ n => exact hk n
theorem m_xret {dl : Nat} {fs : List xF} {h : xBT xC d} {c : Nat × Nat} (hi : xIm fin i1 i2) : xret dl fs i1 h c = some fin → xret dl fs i2 h c = some fin := by
  cases fs with
  | nil => exact id
  | cons f t =>
    obtain ⟨b, ls, st⟩ := f
    exact hi _
theorem m_xretv {dl : Nat} {fs : List xF} {v : xV} {h : xBT xC d} {c : Nat × Nat} (hi : xIm fin i1 i2) : xretv dl fs i1 v h c = some fin → xretv dl fs i2 v h c = some fin := by
  cases fs with
  | nil => exact id
  | cons f t =>
    obtain ⟨b, ls, st⟩ := f
    exact hi _
theorem m_xgo {b dl : Nat} {fs : List xF} (hi : xIm fin i1 i2) : xKm fin (xgo b dl fs i1) (xgo b dl fs i2) := fun _ _ _ _ => hi _
theorem m_no : xKm fin (x_no (d := d)) x_no := fun _ _ _ _ => id
theorem m_iload {i : Nat} (hk : xKm fin k k') : xKm fin (h_iload i k) (h_iload i k') := fun h c ls st => m_xlg (ls := ls) fun v => m_xint (v := v) fun _ => hk h c ls (v :: st)
theorem m_aload {i : Nat} (hk : xKm fin k k') : xKm fin (h_aload i k) (h_aload i k') := fun h c ls st => m_xlg (ls := ls) fun v => m_xobj (v := v) fun _ => hk h c ls (v :: st)
theorem m_istore {i : Nat} (hk : xKm fin k k') : xKm fin (h_istore i k) (h_istore i k') := fun h c ls st => m_xpop (st := st) fun v st => m_xint (v := v) fun _ => m_xlp (ls := ls) (v := v) fun ls => hk h c ls st
theorem m_astore {i : Nat} (hk : xKm fin k k') : xKm fin (h_astore i k) (h_astore i k') := fun h c ls st => m_xpop (st := st) fun v st => m_xobj (v := v) fun _ => m_xlp (ls := ls) (v := v) fun ls => hk h c ls st
theorem m_iconst {n : Nat} (hk : xKm fin k k') : xKm fin (h_iconst n k) (h_iconst n k') := fun h c ls st => hk h c ls (Sum.inl n :: st)
theorem m_null (hk : xKm fin k k') : xKm fin (h_null k) (h_null k') := fun h c ls st => hk h c ls (Sum.inr (Sum.inr 0) :: st)
theorem m_text {j : Nat} (hk : xKm fin k k') : xKm fin (h_text j k) (h_text j k') := fun h c ls st => hk h c ls (Sum.inr (Sum.inr j) :: st)
theorem m_iinc {i a : Nat} (hk : xKm fin k k') : xKm fin (h_iinc i a k) (h_iinc i a k') := fun h c ls st => m_xlg (ls := ls) fun v => m_xint (v := v) fun _ => m_xst fun m => m_xlp (ls := ls) (v := Sum.inl m) fun ls => hk h c ls st
theorem m_bin {f : Nat → Nat → Nat} (hk : xKm fin k k') : xKm fin (h_bin f k) (h_bin f k') := fun h c ls st => m_xpop (st := st) fun v st => m_xpop (st := st) fun u st => m_xint (v := v) fun _ => m_xint (v := u) fun _ => m_xst fun m => hk h c ls (Sum.inl m :: st)
theorem m_divr {f : Nat → Nat → Nat} (hk : xKm fin k k') : xKm fin (h_divr f k) (h_divr f k') := fun h c ls st => m_xpop (st := st) fun v st => m_xpop (st := st) fun u st => m_xint (v := v) fun _ => m_xint (v := u) fun _ => m_xck (m_xck (m_xck (m_xst fun m => hk h c ls (Sum.inl m :: st))))
theorem m_un {f : Nat → Nat} (hk : xKm fin k k') : xKm fin (h_un f k) (h_un f k') := fun h c ls st => m_xpop (st := st) fun u st => m_xint (v := u) fun _ => m_xst fun m => hk h c ls (Sum.inl m :: st)
theorem m_ishr (hk : xKm fin k k') : xKm fin (h_ishr k) (h_ishr k') := fun h c ls st => m_xpop (st := st) fun v st => m_xpop (st := st) fun u st => m_xint (v := v) fun _ => m_xint (v := u) fun _ => m_xck (m_xck (m_xst fun m => hk h c ls (Sum.inl m :: st)))
theorem m_dup (hk : xKm fin k k') : xKm fin (h_dup k) (h_dup k') := fun h c ls st => m_xpop (st := st) fun v st => m_xcat1 (v := v) (hk h c ls (v :: v :: st))
theorem m_dup2 (hk : xKm fin k k') : xKm fin (h_dup2 k) (h_dup2 k') := fun h c ls st => m_xpop (st := st) fun v st => m_xpop (st := st) fun u st => m_xcat1 (v := v) (m_xcat1 (v := u) (hk h c ls (v :: u :: v :: u :: st)))
theorem m_pop (hk : xKm fin k k') : xKm fin (h_pop k) (h_pop k') := fun h c ls st => m_xpop (st := st) fun v st => m_xcat1 (v := v) (hk h c ls st)
theorem m_if1 {t : Nat → Bool} (hj : xKm fin j j') (hk : xKm fin k k') : xKm fin (h_if1 t j k) (h_if1 t j' k') := fun h c ls st => m_xpop (st := st) fun v st => m_xint (v := v) fun _ => m_xif (hj h c ls st) (hk h c ls st)
theorem m_if2 {t : Nat → Nat → Bool} (hj : xKm fin j j') (hk : xKm fin k k') : xKm fin (h_if2 t j k) (h_if2 t j' k') := fun h c ls st => m_xpop (st := st) fun v st => m_xpop (st := st) fun u st => m_xint (v := v) fun _ => m_xint (v := u) fun _ => m_xif (hj h c ls st) (hk h c ls st)
theorem m_ret {dl : Nat} {fs : List xF} (hi : xIm fin i1 i2) : xKm fin (h_ret dl fs i1) (h_ret dl fs i2) := fun h c _ st => m_xnil (st := st) (m_xret hi)
theorem m_iret {dl : Nat} {fs : List xF} (hi : xIm fin i1 i2) : xKm fin (h_iret dl fs i1) (h_iret dl fs i2) := fun h c _ st => m_xpop (st := st) fun v st => m_xint (v := v) fun _ => m_xnil (st := st) (m_xretv hi)
theorem m_zret {dl : Nat} {fs : List xF} (hi : xIm fin i1 i2) : xKm fin (h_zret dl fs i1) (h_zret dl fs i2) := fun h c _ st => m_xpop (st := st) fun v st => m_xint (v := v) fun _ => m_xck (m_xnil (st := st) (m_xretv hi))
theorem m_aret {dl : Nat} {fs : List xF} (hi : xIm fin i1 i2) : xKm fin (h_aret dl fs i1) (h_aret dl fs i2) := fun h c _ st => m_xpop (st := st) fun v st => m_xref (v := v) fun _ => m_xnil (st := st) (m_xretv hi)
theorem m_nret {t : Nat → Bool} {dl : Nat} {fs : List xF} (hi : xIm fin i1 i2) : xKm fin (h_nret t dl fs i1) (h_nret t dl fs i2) := fun h c _ st => m_xpop (st := st) fun v st => m_xint (v := v) fun _ => m_xck (m_xnil (st := st) (m_xretv hi))
theorem m_cret {dl : Nat} {fs : List xF} (hi : xIm fin i1 i2) : xKm fin (h_cret dl fs i1) (h_cret dl fs i2) := m_nret hi
theorem m_bret {dl : Nat} {fs : List xF} (hi : xIm fin i1 i2) : xKm fin (h_bret dl fs i1) (h_bret dl fs i2) := m_nret hi
theorem m_calls {b0 b1 nA : Nat} {pads : List xO} {dl : Nat} {fs : List xF} (hi : xIm fin i1 i2) : xKm fin (h_calls b0 b1 nA pads dl fs i1) (h_calls b0 b1 nA pads dl fs i2) := fun h c ls st => m_xargs (st := st) fun acc st => m_xsmall (st := st) (m_xdown fun m => hi _)
theorem m_calli {b0 b1 nA : Nat} {pads : List xO} {dl : Nat} {fs : List xF} (hi : xIm fin i1 i2) : xKm fin (h_calli b0 b1 nA pads dl fs i1) (h_calli b0 b1 nA pads dl fs i2) := fun h c ls st => m_xargs (st := st) fun acc st => m_xpop (st := st) fun v st => m_xobj (v := v) fun _ => m_xsmall (st := st) (m_xdown fun m => hi _)
theorem m_callv {b0 b1 nA kc : Nat} {pads : List xO} {dl : Nat} {fs : List xF} (hi : xIm fin i1 i2) : xKm fin (h_callv b0 b1 nA kc pads dl fs i1) (h_callv b0 b1 nA kc pads dl fs i2) := fun h c ls st => m_xargs (st := st) fun acc st => m_xpop (st := st) fun v st => m_xobj (v := v) fun _ => m_xck (m_xck (m_xsmall (st := st) (m_xdown fun m => hi _)))
theorem m_callt {b0 b1 nA nS : Nat} {pads : List xO} {dl : Nat} {fs : List xF} (hi : xIm fin i1 i2) : xKm fin (h_callt b0 b1 nA nS pads dl fs i1) (h_callt b0 b1 nA nS pads dl fs i2) := fun h c ls st => m_xargs (st := st) fun acc st => m_xpop (st := st) fun v st => m_xobj (v := v) fun _ => m_xtx fun _ => m_xsmall (st := st) (m_xdown fun m => hi _)
theorem m_geti {kc q : Nat} (hk : xKm fin k k') : xKm fin (h_geti kc q k) (h_geti kc q k') := fun h c ls st => m_xpop (st := st) fun v st => m_xobj (v := v) fun q => m_xck (m_xcls (c := xget d h q) fun A => m_xst fun m => hk h c ls (Sum.inl m :: st))
theorem m_getr {kc q : Nat} (hk : xKm fin k k') : xKm fin (h_getr kc q k) (h_getr kc q k') := fun h c ls st => m_xpop (st := st) fun v st => m_xobj (v := v) fun q => m_xck (m_xcls (c := xget d h q) fun A => m_xst fun m => hk h c ls (Sum.inr (Sum.inr m) :: st))
theorem m_puti {kc q : Nat} (hk : xKm fin k k') : xKm fin (h_puti kc q k) (h_puti kc q k') := fun h c ls st => m_xpop (st := st) fun v st => m_xpop (st := st) fun u st => m_xint (v := v) fun a => m_xobj (v := u) fun q => m_xck (m_xcls (c := xget d h q) fun A => m_xck (m_xst fun B => m_xsetK fun h => hk h c ls st))
theorem m_putz {kc q : Nat} (hk : xKm fin k k') : xKm fin (h_putz kc q k) (h_putz kc q k') := fun h c ls st => m_xpop (st := st) fun v st => m_xpop (st := st) fun u st => m_xint (v := v) fun a => m_xck (m_xobj (v := u) fun q => m_xck (m_xcls (c := xget d h q) fun A => m_xck (m_xst fun B => m_xsetK fun h => hk h c ls st)))
theorem m_putr {kc q : Nat} (hk : xKm fin k k') : xKm fin (h_putr kc q k) (h_putr kc q k') := fun h c ls st => m_xpop (st := st) fun v st => m_xpop (st := st) fun u st => m_xref (v := v) fun a => m_xck (m_xobj (v := u) fun q => m_xck (m_xcls (c := xget d h q) fun A => m_xck (m_xst fun B => m_xsetK fun h => hk h c ls st)))
theorem m_ald {kc : Nat} (hk : xKm fin k k') : xKm fin (h_ald kc k) (h_ald kc k') := fun h c ls st => m_xpop (st := st) fun v st => m_xpop (st := st) fun u st => m_xint (v := v) fun i => m_xobj (v := u) fun q => m_xck (m_xrow (c := xget d h q) fun m A => m_xck (m_xck (m_xst fun x => hk h c ls (Sum.inl x :: st))))
theorem m_bald (hk : xKm fin k k') : xKm fin (h_bald k) (h_bald k') := fun h c ls st => m_xpop (st := st) fun v st => m_xpop (st := st) fun u st => m_xint (v := v) fun i => m_xobj (v := u) fun q => m_xck (m_xrow (c := xget d h q) fun m A => m_xck (m_xck (m_xst fun x => hk h c ls (Sum.inl x :: st))))
theorem m_ast {kc : Nat} {f : Nat → Nat} (hk : xKm fin k k') : xKm fin (h_ast kc f k) (h_ast kc f k') := fun h c ls st => m_xpop (st := st) fun w st => m_xpop (st := st) fun v st => m_xpop (st := st) fun u st => m_xint (v := w) fun a => m_xint (v := v) fun i => m_xobj (v := u) fun q => m_xck (m_xrow (c := xget d h q) fun m A => m_xck (m_xck (m_xck (m_xst fun B => m_xsetK fun h => hk h c ls st))))
theorem m_alen (hk : xKm fin k k') : xKm fin (h_alen k) (h_alen k') := fun h c ls st => m_xpop (st := st) fun u st => m_xobj (v := u) fun q => m_xck (by
  obtain ⟨kd, m, A⟩ := xget d h q
  exact m_xck (hk h c ls (Sum.inl m :: st)))
theorem m_newa {lim kc : Nat} (hk : xKm fin k k') : xKm fin (h_newa lim kc k) (h_newa lim kc k') := fun h c ls st => m_xpop (st := st) fun v st => m_xint (v := v) fun m => m_xck (by
  obtain ⟨c1, c2⟩ := c
  exact m_xck (m_xck (m_xst fun z => m_xsetK fun h => m_xst fun c3 => m_xst fun c4 => hk h (c4, c3) ls (Sum.inr (Sum.inr c4) :: st))))
theorem m_new {lim kc N : Nat} (hk : xKm fin k k') : xKm fin (h_new lim kc N k) (h_new lim kc N k') := fun h c ls st => by
  obtain ⟨c1, c2⟩ := c
  exact m_xck (m_xck (m_xst fun z => m_xsetK fun h => m_xst fun c3 => m_xst fun c4 => hk h (c4, c3) ls (Sum.inr (Sum.inr c4) :: st)))
theorem m_tval {nS : Nat} (hk : xKm fin k k') : xKm fin (h_tval nS k) (h_tval nS k') := fun h c ls st => m_xpop (st := st) fun v st => m_xobj (v := v) fun r => m_xtx fun j => m_xst fun m => hk h c ls (Sum.inr (Sum.inr m) :: st)
theorem m_tcod {nS : Nat} (hk : xKm fin k k') : xKm fin (h_tcod nS k) (h_tcod nS k') := fun h c ls st => m_xpop (st := st) fun v st => m_xobj (v := v) fun r => m_xtx fun j => hk h c ls (Sum.inl 0 :: st)
theorem m_tlen {nS : Nat} {TT : xBT (Nat × Nat) 5} (hk : xKm fin k k') : xKm fin (h_tlen nS TT k) (h_tlen nS TT k') := fun h c ls st => m_xpop (st := st) fun v st => m_xobj (v := v) fun r => m_xtx fun j => m_xst fun m => hk h c ls (Sum.inl m :: st)
theorem m_tald {nS : Nat} {TT : xBT (Nat × Nat) 5} (hk : xKm fin k k') : xKm fin (h_tald nS TT k) (h_tald nS TT k') := fun h c ls st => m_xpop (st := st) fun v st => m_xpop (st := st) fun u st => m_xint (v := v) fun i => m_xobj (v := u) fun r => m_xtx fun j => m_xck (m_xck (m_xst fun m => hk h c ls (Sum.inl m :: st)))
theorem m_obj (hk : xKm fin k k') : xKm fin (h_obj k) (h_obj k') := fun h c ls st => m_xpop (st := st) fun v st => m_xobj (v := v) fun _ => m_xsmall (st := st) (hk h c ls st)
theorem m_ckix (hk : xKm fin k k') : xKm fin (h_ckix k) (h_ckix k') := fun h c ls st => m_xpop (st := st) fun v st => m_xpop (st := st) fun u st => m_xint (v := v) fun _ => m_xint (v := u) fun _ => m_xck (m_xck (m_xsmall (st := st) (hk h c ls st)))
theorem m_mmin (hk : xKm fin k k') : xKm fin (h_mmin k) (h_mmin k') := fun h c ls st => m_xpop (st := st) fun v st => m_xpop (st := st) fun u st => m_xint (v := v) fun _ => m_xint (v := u) fun _ => m_xsmall (st := st) (m_xst fun m => hk h c ls (Sum.inl m :: st))
theorem m_mmax (hk : xKm fin k k') : xKm fin (h_mmax k) (h_mmax k') := fun h c ls st => m_xpop (st := st) fun v st => m_xpop (st := st) fun u st => m_xint (v := v) fun _ => m_xint (v := u) fun _ => m_xsmall (st := st) (m_xst fun m => hk h c ls (Sum.inl m :: st))
theorem m_copy {kc : Nat} {t : Nat → Nat → Nat → Bool} (hk : xKm fin k k') : xKm fin (h_copy kc t k) (h_copy kc t k') := fun h c ls st => m_xpop (st := st) fun w5 st => m_xpop (st := st) fun w4 st => m_xpop (st := st) fun w3 st => m_xpop (st := st) fun w2 st => m_xpop (st := st) fun w1 st => m_xint (v := w5) fun m => m_xint (v := w4) fun dp => m_xobj (v := w3) fun q => m_xint (v := w2) fun sp => m_xobj (v := w1) fun p => m_xsmall (st := st) (m_xck (m_xck (m_xrow (c := xget d h p) fun ns S => m_xrow (c := xget d h q) fun na A => m_xck (m_xck (m_xck (m_xck (m_xck (m_xck (m_xst fun B => m_xsetK fun h => hk h c ls st)))))))))
/-! switches -/
def xJm (fin : xE d) : List (xK d) → List (xK d) → Prop
  | [], [] => True
  | a :: s, b :: t => xKm fin a b ∧ xJm fin s t
  | _, _ => False
def xQm (fin : xE d) : List (Nat × xK d) → List (Nat × xK d) → Prop
  | [], [] => True
  | a :: s, b :: t => (a.1 = b.1 ∧ xKm fin a.2 b.2) ∧ xQm fin s t
  | _, _ => False
theorem m_sel : ∀ {js js' : List (xK d)} {i : Nat}, xJm fin js js' → xKm fin j j' → xKm fin (h_sel js j i) (h_sel js' j' i)
  | [], [], _, _, hj => hj
  | [], _ :: _, _, h, _ => h.elim
  | _ :: _, [], _, h, _ => h.elim
  | a :: s, b :: t, i, h, hj => fun hp c ls st => by
    show xif (Nat.beq i 0) a (h_sel s j (Nat.pred i)) hp c ls st = some fin → xif (Nat.beq i 0) b (h_sel t j' (Nat.pred i)) hp c ls st = some fin
    cases Nat.beq i 0
    · exact m_sel (js := s) (js' := t) h.2 hj hp c ls st
    · exact h.1 hp c ls st
theorem m_table {lo : Nat} {js js' : List (xK d)} (h : xJm fin js js') (hj : xKm fin j j') : xKm fin (h_table lo js j) (h_table lo js' j') := fun hp c ls st => m_xpop (st := st) fun v st => m_xint (v := v) fun _ => m_xck (m_xif (m_sel h hj hp c ls st) (hj hp c ls st))
theorem m_find : ∀ {js js' : List (Nat × xK d)} {a : Nat}, xQm fin js js' → xKm fin j j' → xKm fin (h_find js j a) (h_find js' j' a)
  | [], [], _, _, hj => hj
  | [], _ :: _, _, h, _ => h.elim
  | _ :: _, [], _, h, _ => h.elim
  | (q, a) :: s, (q', b) :: t, n, h, hj => fun hp c ls st => by
    have hq : q = q' := h.1.1
    subst hq
    show xif (Nat.beq (xsg n) (xsg q)) a (h_find s j n) hp c ls st = some fin → xif (Nat.beq (xsg n) (xsg q)) b (h_find t j' n) hp c ls st = some fin
    cases Nat.beq (xsg n) (xsg q)
    · exact m_find (js := s) (js' := t) h.2 hj hp c ls st
    · exact h.1.2 hp c ls st
theorem m_look {js js' : List (Nat × xK d)} (h : xQm fin js js') (hj : xKm fin j j') : xKm fin (h_look js j) (h_look js' j') := fun hp c ls st => m_xpop (st := st) fun v st => m_xint (v := v) fun a => m_find h hj hp c ls st
/-! blocks and codes -/
def xBm (b : xB d) : Prop := ∀ (dl : Nat) (fs : List xF) (i1 i2 : xS d → xR d) (fin : xE d), xIm fin i1 i2 → xKm fin (b dl fs i1) (b dl fs i2)
theorem xall_one {α : Type} {P : α → Prop} : ∀ (q b s : Nat) (t : xBT α q), xall (fun _ a => P a) q b s t → ∀ i, P (xget q t i)
  | 0, _, _, _, h, _ => h
  | q + 1, b, s, t, h, i => by
    show P (xif (Nat.beq (Nat.mod i 2) 0) (xget q (Prod.fst t) (Nat.div i 2)) (xget q (Prod.snd t) (Nat.div i 2)))
    cases Nat.beq (Nat.mod i 2) 0
    · exact xall_one q _ _ _ h.2 _
    · exact xall_one q _ _ _ h.1 _
def xCm {e : Nat} (code : xBT (xB d) e) : Prop := ∀ b, xBm (xget e code b)
theorem xrunk_mono {e : Nat} {code : xBT (xB d) e} (hc : xCm code) (hi : xIm fin i1 i2) : ∀ n, xIm fin (xrunk code i1 n) (xrunk code i2 n)
  | 0 => hi
  | n + 1 => by
    intro S
    obtain ⟨h, c, dl, ⟨b, ls, st⟩, fs⟩ := S
    exact hc b dl fs _ _ fin (xrunk_mono hc hi n) h c ls st
end XM2
/-! equality by a test -/
noncomputable def xband (a b : Bool) : Bool := xif a b false
theorem xband_s {a b : Bool} (h : xband a b = true) : a = true ∧ b = true := by
  cases a with
  | false => cases h
  | true => exact ⟨rfl, h⟩
noncomputable def xeP {α β : Type} (f : α → α → Bool) (g : β → β → Bool) (p q : α × β) : Bool := Prod.rec (motive := fun _ => Bool) (fun a b => Prod.rec (motive := fun _ => Bool) (fun a' b' => xband (f a a') (g b b')) q) p
theorem xeP_s {α β : Type} {f : α → α → Bool} {g : β → β → Bool} (hf : ∀ a b, f a b = true → a = b) (hg : ∀ a b, g a b = true → a = b) : ∀ p q, xeP f g p q = true → p = q
  | (a, b), (a', b'), h => by
    have h2 := xband_s (a := f a a') (b := g b b') h
    rw [hf a a' h2.1, hg b b' h2.2]
noncomputable def xeT {α : Type} (f : α → α → Bool) (q : Nat) : xBT α q → xBT α q → Bool := Nat.rec (motive := fun q => xBT α q → xBT α q → Bool) f (fun _ ih => xeP ih ih) q
theorem xeT_s {α : Type} {f : α → α → Bool} (hf : ∀ a b, f a b = true → a = b) : ∀ q (s t : xBT α q), xeT f q s t = true → s = t
  | 0 => hf
  | q + 1 => xeP_s (xeT_s hf q) (xeT_s hf q)
theorem xeN_s (a b : Nat) (h : Nat.beq a b = true) : a = b := Nat.eq_of_beq_eq_true h
noncomputable def xeV (v w : xV) : Bool := Sum.rec (motive := fun _ => Bool) (fun a => Sum.rec (motive := fun _ => Bool) (fun b => Nat.beq a b) (fun _ => false) w) (fun u => Sum.rec (motive := fun _ => Bool) (fun a => Sum.rec (motive := fun _ => Bool) (fun _ => false) (fun z => Sum.rec (motive := fun _ => Bool) (fun b => Nat.beq a b) (fun _ => false) z) w) (fun a => Sum.rec (motive := fun _ => Bool) (fun _ => false) (fun z => Sum.rec (motive := fun _ => Bool) (fun _ => false) (fun b => Nat.beq a b) z) w) u) v
theorem xeV_s : ∀ v w : xV, xeV v w = true → v = w
  | .inl a, .inl b, h => congrArg _ (xeN_s a b h)
  | .inl _, .inr _, h => Bool.noConfusion h
  | .inr (.inl _), .inl _, h => Bool.noConfusion h
  | .inr (.inr _), .inl _, h => Bool.noConfusion h
  | .inr (.inl a), .inr (.inl b), h => congrArg _ (congrArg _ (xeN_s a b h))
  | .inr (.inl _), .inr (.inr _), h => Bool.noConfusion h
  | .inr (.inr _), .inr (.inl _), h => Bool.noConfusion h
  | .inr (.inr a), .inr (.inr b), h => congrArg _ (congrArg _ (xeN_s a b h))
noncomputable def xeO (v w : xO) : Bool := Option.rec (motive := fun _ => Bool) (Option.rec (motive := fun _ => Bool) true (fun _ => false) w) (fun a => Option.rec (motive := fun _ => Bool) false (fun b => xeV a b) w) v
theorem xeO_s : ∀ v w : xO, xeO v w = true → v = w
  | none, none, _ => rfl
  | none, some _, h => Bool.noConfusion h
  | some _, none, h => Bool.noConfusion h
  | some a, some b, h => congrArg _ (xeV_s a b h)
noncomputable def xeL {α : Type} (f : α → α → Bool) (s : List α) : List α → Bool := List.rec (motive := fun _ => List α → Bool) (fun t => List.rec (motive := fun _ => Bool) true (fun _ _ _ => false) t) (fun a _ ih t => List.rec (motive := fun _ => Bool) false (fun b t _ => xband (f a b) (ih t)) t) s
theorem xeL_s {α : Type} {f : α → α → Bool} (hf : ∀ a b, f a b = true → a = b) : ∀ s t : List α, xeL f s t = true → s = t
  | [], [], _ => rfl
  | [], _ :: _, h => Bool.noConfusion h
  | _ :: _, [], h => Bool.noConfusion h
  | a :: s, b :: t, h => by
    have h2 := xband_s (a := f a b) (b := xeL f s t) h
    rw [hf a b h2.1, xeL_s hf s t h2.2]
noncomputable def xeF : xF → xF → Bool := xeP Nat.beq (xeP (xeL xeO) (xeL xeV))
noncomputable def xeH (d : Nat) : xBT xC d → xBT xC d → Bool := xeT (xeP Nat.beq (xeP Nat.beq Nat.beq)) d
theorem xeH_s (d : Nat) : ∀ s t, xeH d s t = true → s = t := xeT_s (xeP_s xeN_s (xeP_s xeN_s xeN_s)) d
noncomputable def xeS (d : Nat) : xS d → xS d → Bool := xeP (xeH d) (xeP (xeP Nat.beq Nat.beq) (xeP Nat.beq (xeP xeF (xeL xeF))))
theorem xeF_s : ∀ s t, xeF s t = true → s = t := xeP_s xeN_s (xeP_s (xeL_s xeO_s) (xeL_s xeV_s))
theorem xeS_s (d : Nat) : ∀ s t, xeS d s t = true → s = t := xeP_s (xeH_s d) (xeP_s (xeP_s xeN_s xeN_s) (xeP_s xeN_s (xeP_s xeF_s (xeL_s xeF_s))))
noncomputable def xeE (d : Nat) : xE d → xE d → Bool := xeP xeO (xeP (xeH d) (xeP Nat.beq Nat.beq))
theorem xeE_s (d : Nat) : ∀ s t, xeE d s t = true → s = t := xeP_s xeO_s (xeP_s (xeH_s d) (xeP_s xeN_s xeN_s))
/-- a base that knows one state alone -/
noncomputable def xtest {d : Nat} (T : xS d) (fin : xE d) : xS d → xR d := fun S => xif (xeS d S T) (some fin) none
noncomputable def xisE {d : Nat} (fin : xE d) (r : xR d) : Bool := Option.rec (motive := fun _ => Bool) false (fun y => xeE d y fin) r
theorem xisE_s {d : Nat} {fin : xE d} : ∀ {r : xR d}, xisE fin r = true → r = some fin
  | none, h => Bool.noConfusion h
  | some y, h => congrArg _ (xeE_s d y fin h)
/-- one piece of a long run -/
theorem x_piece {d e : Nat} {code : xBT (xB d) e} (hc : xCm code) {S T : xS d} {fin : xE d} {m n : Nat} (h : xisE fin (xrunk code (xtest T fin) m S) = true) (hT : xrun code n T = some fin) : xrun code (m + n) S = some fin := by
  have hi : xIm fin (xtest T fin) (xrun code n) := by
    intro U hU
    have h2 : xeS d U T = true := by
      unfold xtest at hU
      cases hh : xeS d U T with
      | true => rfl
      | false => rw [hh] at hU; cases hU
    rw [xeS_s d U T h2]
    exact hT
  have h3 := xrunk_mono hc hi m S (xisE_s h)
  rw [xrunk_run] at h3
  exact h3
/-- its last piece -/
theorem x_last {d e : Nat} {code : xBT (xB d) e} {S : xS d} {fin : xE d} {m : Nat} (h : xisE fin (xrun code m S) = true) : xrun code m S = some fin := xisE_s h

/-! A row of rows of ints, made at once. -/
/-- n new rows of m ints each, from place j on -/
noncomputable def xmk {d : Nat} {R : Type} (m n : Nat) : Nat → xBT xC d → (xBT xC d → Option R) → Option R := Nat.rec (motive := fun _ => Nat → xBT xC d → (xBT xC d → Option R) → Option R) (fun _ h k => k h) (fun _ ih j h k => xst (Nat.mul j 1048576) (fun z => xsetK d h j (0, (m, z)) (fun h => xst (Nat.succ j) (fun j => ih j h k)))) n
/-- the places of n objects from j on, as digits -/
noncomputable def xpl (n : Nat) : Nat → Nat := Nat.rec (motive := fun _ => Nat → Nat) (fun _ => 0) (fun _ ih j => Nat.add (Nat.succ j) (Nat.shiftLeft (ih (Nat.succ j)) 64)) n
noncomputable def h_multi {d : Nat} (lim : Nat) (k : xK d) : xK d := fun h c ls st => xpop st (fun v st => xpop st (fun u st => xint v (fun m => xint u (fun n => xck (Nat.blt m 50000000) (xck (Nat.blt n 1000) (Prod.rec (motive := fun _ => xR d) (fun c1 c2 => xck (Nat.blt (Nat.add c1 n) lim) (xst (Nat.add (Nat.mul c1 1048576) (Nat.shiftLeft (xpl n (Nat.succ c1)) 64)) (fun z => xsetK d h c1 (4, (n, z)) (fun h => xmk m n (Nat.succ c1) h (fun h => xst (Nat.add c2 (Nat.add n (Nat.mul n m))) (fun c3 => xst (Nat.add (Nat.succ c1) n) (fun c4 => xst (Nat.succ c1) (fun q => k h (c4, c3) ls (Sum.inr (Sum.inr q) :: st))))))))) c))))))
section XMULTI
variable {l : Launch} {Dg : va_G} {cl : List vw_C} {tys : List (ClassId × FieldType)} {cA fl : Nat → Nat} {ft : Nat → Nat → Nat} {base : Nat} {adS : Nat → Nat} {GW : List Cond}
variable {xy : Nat → MethodName} {xc : Nat → ByteArray} {xn : Nat → Nat} {xr : Nat → Option FieldType} {Ex : State → Heap → Prop} {d e : Nat} {code : xBT (xB d) e}
variable {K dl mi pc : Nat} {fs : List xF} {fin : xE d} {k k' : xK d}
theorem s_multi {t0 t4 lim index : Nat} (hd9 : 2 ^ d ≤ 1000) (hlim : lim = 2 ^ d) (ht : tys[t0]? = some (cA 0, .int)) (ht4 : tys[t4]? = some (cA 4, .array .int)) (hOv : ∀ s : State, Ex s s.heap → va_Nw (.arrayOver (.array .int)) s) (hw : Cond.classLink (xy mi).cls index "[[I" ∈ GW ∧ Cond.arrayClass .int ∈ GW) (hd : decode (xc mi) pc = .ok (.multianewarray index 2, 4)) (hk : xSK l Dg cl tys cA fl ft base adS GW xy xc xn xr Ex code K dl fs fin mi (pc + 4) k) : xSK l Dg cl tys cA fl ft base adS GW xy xc xn xr Ex code K dl fs fin mi pc (h_multi lim k) := by
  sorry
theorem m_xmk {R : Type} {x : R} {m : Nat} {k k' : xBT xC d → Option R} (hk : ∀ h, k h = some x → k' h = some x) : ∀ {n j : Nat} {h : xBT xC d}, xmk m n j h k = some x → xmk m n j h k' = some x
  | 0, _, h => hk h
  | n + 1, j, h => m_xst (n := Nat.mul j 1048576) fun z => m_xsetK (t := h) (i := j) (a := (0, (m, z))) fun h => m_xst (n := Nat.succ j) fun j => m_xmk hk (n := n) (j := j) (h := h)
theorem m_multi {lim : Nat} (hk : xKm fin k k') : xKm fin (h_multi lim k) (h_multi lim k') := fun h c ls st => m_xpop (st := st) fun v st => m_xpop (st := st) fun u st => m_xint (v := v) fun m => m_xint (v := u) fun n => m_xck (m_xck (by
  obtain ⟨c1, c2⟩ := c
  exact m_xck (m_xst fun z => m_xsetK fun h => m_xmk (fun h => m_xst fun c3 => m_xst fun c4 => m_xst fun q => hk h (c4, c3) ls (Sum.inr (Sum.inr q) :: st)))))
end XMULTI

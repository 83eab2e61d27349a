/-! The contract of the reference's constructor. -/
section
variable {l : Launch} {Dg : va_G} {tys : List (ClassId × FieldType)} {cA : Nat → Nat} {base : Nat} {adS : Nat → Nat} {Ex : State → Heap → Prop}
theorem con_m (Hy : Hym tys cA base adS Ex) : Met l (xym 0) (Cond.code (xym 0) (xcm 0) (xnm 0) (xrm 0) :: GWm) ({ frames := 22, cells := 140, slots := 3829462, locals := 1380 }) (va_Pc [.ref base] (fun U => xWd Dg clm tys cA flm ftm base adS Ex 8 (Prod.fst Sm_0) 1 U)) (xQ Dg clm tys cA flm ftm base adS Ex 8 none (Prod.fst (Prod.snd FINm)) 141) 140 3829462 (fun q => base ≤ q) := by
  obtain ⟨r, h', c', l1, l2, l3, e, w⟩ := soundm (l := l) (Dg := Dg) Hy 196806 196805 (Nat.lt_succ_self _) 0 (Prod.fst Sm_0) (1, 0) 20 [some (.inr (.inr 1)), none] [] [] FINm rmm_0
  have e : FINm = (r, (h', c')) := e
  have e1 : none = r := congrArg Prod.fst e
  have e2 : Prod.fst (Prod.snd FINm) = h' := congrArg (fun z => Prod.fst (Prod.snd z)) e
  have e3 : (141, 3829462) = c' := congrArg (fun z => Prod.snd (Prod.snd z)) e
  subst e1
  subst e2
  subst e3
  have b0 : bmm 0 = 0 := by decide +kernel
  have b1 : bpm 0 = 0 := by decide +kernel
  rw [b0, b1] at w
  have hn : xnm 0 = 2 := by decide +kernel
  have w2 : xWp l Dg clm tys cA flm ftm base adS GWm xym xcm xnm xrm Ex 8 0 0 20 (Prod.fst Sm_0) (1, 0) (([.inr (.inr 1)] : List xV).map some ++ List.replicate (xnm 0 - ([.inr (.inr 1)] : List xV).length) none) [] none (Prod.fst (Prod.snd FINm)) (141, 3829462) := by
    rw [hn]
    exact w
  exact xMet (xy := xym) (xc := xcm) (xn := xnm) (xr := xrm) (d := 8) (mi := 0) (vs := [.inr (.inr 1)]) (c := (1, 0)) (c' := (141, 3829462)) (by decide +kernel) (fun v hv => by rw [List.mem_singleton.mp hv]; rfl) (by rw [hn]; decide) (by decide) w2
end

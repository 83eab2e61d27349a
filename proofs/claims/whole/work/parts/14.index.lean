/-! String.checkIndex(II): what it does when the index is in its range: nothing. -/
noncomputable def h_ckix {d : Nat} (k : xK d) : xK d := fun h c ls st => xpop st (fun v st => xpop st (fun u st => xint v (fun m => xint u (fun i => xck (Nat.blt i m) (xck (Nat.blt m 2147483648) (xsmall 8 st (k h c ls st)))))))
section XCK
variable {l : Launch} {Dg : va_G} {cl : List vw_C} {tys : List (ClassId × FieldType)} {cA fl : Nat → Nat} {ft : Nat → Nat → Nat} {base : Nat} {adS : Nat → Nat} {GW : List Cond}
variable {xy : Nat → MethodName} {xc : Nat → ByteArray} {xn : Nat → Nat} {xr : Nat → Option FieldType} {Ex : State → Heap → Prop} {d e : Nat} {code : xBT (xB d) e}
variable {K dl mi pc : Nat} {fs : List xF} {fin : xE d} {k : xK d}
theorem s_ckix {index : Nat} (hd : decode (xc mi) pc = .ok (.invokestatic index, 3)) (hk : xSK l Dg cl tys cA fl ft base adS GW xy xc xn xr Ex code K dl fs fin mi (pc + 3) k) : xSK l Dg cl tys cA fl ft base adS GW xy xc xn xr Ex code K dl fs fin mi pc (h_ckix k) := by
  sorry
end XCK

/-! The walk of a method in the machine's words, a row an instruction: for methods that throw, or that have numbers that are not known (printed by wip/p1/genwalkrows.py). -/
section WALK
variable {l : Launch} {Dg : va_G} {cl : List vw_C} {tys : List (ClassId × FieldType)} {cA fl : Nat → Nat} {ft : Nat → Nat → Nat} {base : Nat} {adS : Nat → Nat} {GW : List Cond} {Ex : State → Heap → Prop} {d : Nat}
variable {y : MethodName} {cc : ByteArray} {nL pc dl : Nat} {ret : Option FieldType}
variable {p : Program} {e : Env} {R : Room} {s : State} {m : MethodId} {args : Array Value} {below : List Frame} {meth : Method} {cd : Code} {H : Heap} {locs : List Loc} {lsA : Array Slot} {cells slots : Nat} {Q : State → Prop}
variable {h h' : xBT xC d} {n : Nat} {ls ls' : List xO} {st : List xV}
theorem w_iload_n {i v : Nat} {q : Fin 4}  (X : xCtx Dg cl tys base GW Ex y cc nL ret dl p R s m args meth cd) (N : xNow Dg cl cA fl ft base adS d h n nL ls s H locs lsA) (hi : (q : Nat) = i) (h1 : ls[i]? = some (some (.inl v))) (hd : decode cc pc = .ok (.iload_n q, 1)) (k : W p l e R s m args below meth cd H locs cells slots Q (F0 m (pc + 1) lsA (List.map (xval (xad base adS)) (.inl v :: st)))) : W p l e R s m args below meth cd H locs cells slots Q (F0 m pc lsA (List.map (xval (xad base adS)) st)) := lv_iload_n X.1 X.2.1 hd hi (xL_at N.2.2.2.2 h1 rfl) k
theorem w_aload_n {i v : Nat} {q : Fin 4}  (X : xCtx Dg cl tys base GW Ex y cc nL ret dl p R s m args meth cd) (N : xNow Dg cl cA fl ft base adS d h n nL ls s H locs lsA) (hi : (q : Nat) = i) (h1 : ls[i]? = some (some (.inr (.inr (v + 1))))) (hd : decode cc pc = .ok (.aload_n q, 1)) (k : W p l e R s m args below meth cd H locs cells slots Q (F0 m (pc + 1) lsA (List.map (xval (xad base adS)) (.inr (.inr (v + 1)) :: st)))) : W p l e R s m args below meth cd H locs cells slots Q (F0 m pc lsA (List.map (xval (xad base adS)) st)) := lv_aload_n X.1 X.2.1 hd hi (xL_at N.2.2.2.2 h1 rfl) k
theorem w_istore_n {i v : Nat} {q : Fin 4}  (X : xCtx Dg cl tys base GW Ex y cc nL ret dl p R s m args meth cd) (N : xNow Dg cl cA fl ft base adS d h n nL ls s H locs lsA) (hi : (q : Nat) = i) (h1 : i < ls.length) (h2 : ls.set i (some (.inl v)) = ls') (hd : decode cc pc = .ok (.istore_n q, 1)) (k : ∀ lsA1 : Array Slot, xNow Dg cl cA fl ft base adS d h n nL ls' s H locs lsA1 → W p l e R s m args below meth cd H locs cells slots Q (F0 m (pc + 1) lsA1 (List.map (xval (xad base adS)) st))) : W p l e R s m args below meth cd H locs cells slots Q (F0 m pc lsA (List.map (xval (xad base adS)) (.inl v :: st))) := by
  subst h2
  exact lv_istore_n X.1 X.2.1 hd hi N.2.2.2.2.2 (by rw [← N.2.2.2.2.1]; exact h1) rfl (fun l2 hl => k l2 ⟨N.1, N.2.1, N.2.2.1, N.2.2.2.1, xL_put N.2.2.2.2.1 (by rw [← N.2.2.2.2.1]; exact h1) rfl hl⟩)
theorem w_iload {i v : Nat}  (X : xCtx Dg cl tys base GW Ex y cc nL ret dl p R s m args meth cd) (N : xNow Dg cl cA fl ft base adS d h n nL ls s H locs lsA) (h1 : ls[i]? = some (some (.inl v))) (hd : decode cc pc = .ok (.iload i, 2)) (k : W p l e R s m args below meth cd H locs cells slots Q (F0 m (pc + 2) lsA (List.map (xval (xad base adS)) (.inl v :: st)))) : W p l e R s m args below meth cd H locs cells slots Q (F0 m pc lsA (List.map (xval (xad base adS)) st)) := lv_iload X.1 X.2.1 hd (xL_at N.2.2.2.2 h1 rfl) k
theorem w_aload {i v : Nat}  (X : xCtx Dg cl tys base GW Ex y cc nL ret dl p R s m args meth cd) (N : xNow Dg cl cA fl ft base adS d h n nL ls s H locs lsA) (h1 : ls[i]? = some (some (.inr (.inr (v + 1))))) (hd : decode cc pc = .ok (.aload i, 2)) (k : W p l e R s m args below meth cd H locs cells slots Q (F0 m (pc + 2) lsA (List.map (xval (xad base adS)) (.inr (.inr (v + 1)) :: st)))) : W p l e R s m args below meth cd H locs cells slots Q (F0 m pc lsA (List.map (xval (xad base adS)) st)) := lv_aload X.1 X.2.1 hd (xL_at N.2.2.2.2 h1 rfl) k
theorem w_istore {i v : Nat}  (X : xCtx Dg cl tys base GW Ex y cc nL ret dl p R s m args meth cd) (N : xNow Dg cl cA fl ft base adS d h n nL ls s H locs lsA) (h1 : i < ls.length) (h2 : ls.set i (some (.inl v)) = ls') (hd : decode cc pc = .ok (.istore i, 2)) (k : ∀ lsA1 : Array Slot, xNow Dg cl cA fl ft base adS d h n nL ls' s H locs lsA1 → W p l e R s m args below meth cd H locs cells slots Q (F0 m (pc + 2) lsA1 (List.map (xval (xad base adS)) st))) : W p l e R s m args below meth cd H locs cells slots Q (F0 m pc lsA (List.map (xval (xad base adS)) (.inl v :: st))) := by
  subst h2
  exact lv_istore X.1 X.2.1 hd N.2.2.2.2.2 (by rw [← N.2.2.2.2.1]; exact h1) rfl (fun l2 hl => k l2 ⟨N.1, N.2.1, N.2.2.1, N.2.2.2.1, xL_put N.2.2.2.2.1 (by rw [← N.2.2.2.2.1]; exact h1) rfl hl⟩)
theorem w_astore_any {i a : Nat} {q : Fin 4} (X : xCtx Dg cl tys base GW Ex y cc nL ret dl p R s m args meth cd) (N : xNow Dg cl cA fl ft base adS d h n nL ls s H locs lsA) (hi : (q : Nat) = i) (h1 : i < nL) (hs : ∀ l2 : Array Slot, lv_has l2 nL ((i, Value.ref a) :: (xcl (xad base adS) ls).filter (fun q => !(q.1 == i) && !(q.1 + 1 == i && q.2.category == 2))) → lv_has l2 nL (xcl (xad base adS) ls)) (hd : decode cc pc = .ok (.astore_n q, 1)) (k : ∀ lsA1 : Array Slot, xNow Dg cl cA fl ft base adS d h n nL ls s H locs lsA1 → W p l e R s m args below meth cd H locs cells slots Q (F0 m (pc + 1) lsA1 (List.map (xval (xad base adS)) []))) : W p l e R s m args below meth cd H locs cells slots Q (F0 m pc lsA [.ref a]) :=
  lv_astore_n X.1 X.2.1 hd hi N.2.2.2.2.2 h1 rfl (fun l2 hl => k l2 ⟨N.1, N.2.1, N.2.2.1, N.2.2.2.1, N.2.2.2.2.1, hs l2 hl⟩)
theorem w_astore_anyW {i a : Nat} (X : xCtx Dg cl tys base GW Ex y cc nL ret dl p R s m args meth cd) (N : xNow Dg cl cA fl ft base adS d h n nL ls s H locs lsA) (h1 : i < nL) (hs : ∀ l2 : Array Slot, lv_has l2 nL ((i, Value.ref a) :: (xcl (xad base adS) ls).filter (fun q => !(q.1 == i) && !(q.1 + 1 == i && q.2.category == 2))) → lv_has l2 nL (xcl (xad base adS) ls)) (hd : decode cc pc = .ok (.astore i, 2)) (k : ∀ lsA1 : Array Slot, xNow Dg cl cA fl ft base adS d h n nL ls s H locs lsA1 → W p l e R s m args below meth cd H locs cells slots Q (F0 m (pc + 2) lsA1 (List.map (xval (xad base adS)) []))) : W p l e R s m args below meth cd H locs cells slots Q (F0 m pc lsA [.ref a]) :=
  lv_astore X.1 X.2.1 hd N.2.2.2.2.2 h1 rfl (fun l2 hl => k l2 ⟨N.1, N.2.1, N.2.2.1, N.2.2.2.1, N.2.2.2.2.1, hs l2 hl⟩)
theorem w_iconst {v : Nat} {z : Int} (X : xCtx Dg cl tys base GW Ex y cc nL ret dl p R s m args meth cd) (N : xNow Dg cl cA fl ft base adS d h n nL ls s H locs lsA) (hz : (z % 4294967296).toNat = v) (hd : decode cc pc = .ok (.iconst z, 1)) (k : W p l e R s m args below meth cd H locs cells slots Q (F0 m (pc + 1) lsA (List.map (xval (xad base adS)) (.inl v :: st)))) : W p l e R s m args below meth cd H locs cells slots Q (F0 m pc lsA (List.map (xval (xad base adS)) st)) := lv_iconst (v := nI v) X.1 X.2.1 hd (by rw [xn_ofInt, hz]) k
theorem w_bipush {v : Nat} {z : Int} (X : xCtx Dg cl tys base GW Ex y cc nL ret dl p R s m args meth cd) (N : xNow Dg cl cA fl ft base adS d h n nL ls s H locs lsA) (hz : (Int8.ofInt z).toInt32 = nI v) (hd : decode cc pc = .ok (.bipush z, 2)) (k : W p l e R s m args below meth cd H locs cells slots Q (F0 m (pc + 2) lsA (List.map (xval (xad base adS)) (.inl v :: st)))) : W p l e R s m args below meth cd H locs cells slots Q (F0 m pc lsA (List.map (xval (xad base adS)) st)) := lv_bipush (v := nI v) X.1 X.2.1 hd hz k
theorem w_sipush {v : Nat} {z : Int} (X : xCtx Dg cl tys base GW Ex y cc nL ret dl p R s m args meth cd) (N : xNow Dg cl cA fl ft base adS d h n nL ls s H locs lsA) (hz : (Int16.ofInt z).toInt32 = nI v) (hd : decode cc pc = .ok (.sipush z, 3)) (k : W p l e R s m args below meth cd H locs cells slots Q (F0 m (pc + 3) lsA (List.map (xval (xad base adS)) (.inl v :: st)))) : W p l e R s m args below meth cd H locs cells slots Q (F0 m pc lsA (List.map (xval (xad base adS)) st)) := lv_sipush (v := nI v) X.1 X.2.1 hd hz k
theorem w_isub {a b v : Nat} (X : xCtx Dg cl tys base GW Ex y cc nL ret dl p R s m args meth cd) (N : xNow Dg cl cA fl ft base adS d h n nL ls s H locs lsA) (hv : f_sub a b = v) (hd : decode cc pc = .ok (.isub, 1)) (k : W p l e R s m args below meth cd H locs cells slots Q (F0 m (pc + 1) lsA (List.map (xval (xad base adS)) (.inl v :: st)))) : W p l e R s m args below meth cd H locs cells slots Q (F0 m pc lsA (List.map (xval (xad base adS)) (.inl b :: .inl a :: st))) := by
  subst hv
  refine lv_isub X.1 X.2.1 hd ?_
  rw [xn_sub]
  exact k
theorem w_i2l {a b : Nat} (X : xCtx Dg cl tys base GW Ex y cc nL ret dl p R s m args meth cd) (N : xNow Dg cl cA fl ft base adS d h n nL ls s H locs lsA) (hv : (nI a).toInt64 = lN b) (hd : decode cc pc = .ok (.i2l, 1)) (k : W p l e R s m args below meth cd H locs cells slots Q (F0 m (pc + 1) lsA (List.map (xval (xad base adS)) (.inr (.inl b) :: st)))) : W p l e R s m args below meth cd H locs cells slots Q (F0 m pc lsA (List.map (xval (xad base adS)) (.inl a :: st))) := lv_i2l (x := nI a) (v := lN b) X.1 X.2.1 hd hv k
theorem w_icmp_eq1 {a b tgt : Nat} {off : Int} (X : xCtx Dg cl tys base GW Ex y cc nL ret dl p R s m args meth cd) (N : xNow Dg cl cA fl ft base adS d h n nL ls s H locs lsA) (hq : tq_eq a b = true) (ht : (pc : Int) + off = (tgt : Int)) (hd : decode cc pc = .ok (.if_icmp .eq off, 3)) (k : W p l e R s m args below meth cd H locs cells slots Q (F0 m tgt lsA (List.map (xval (xad base adS)) st))) : W p l e R s m args below meth cd H locs cells slots Q (F0 m pc lsA (List.map (xval (xad base adS)) (.inl b :: .inl a :: st))) := lv_icmp_eq X.1 X.2.1 hd ht (fun _ => k) (fun z => absurd ((tq_eq_s a b).mp hq) z)
theorem w_icmp_eq0 {a b tgt : Nat} {off : Int} (X : xCtx Dg cl tys base GW Ex y cc nL ret dl p R s m args meth cd) (N : xNow Dg cl cA fl ft base adS d h n nL ls s H locs lsA) (hq : tq_eq a b = false) (ht : (pc : Int) + off = (tgt : Int)) (hd : decode cc pc = .ok (.if_icmp .eq off, 3)) (k : W p l e R s m args below meth cd H locs cells slots Q (F0 m (pc + 3) lsA (List.map (xval (xad base adS)) st))) : W p l e R s m args below meth cd H locs cells slots Q (F0 m pc lsA (List.map (xval (xad base adS)) (.inl b :: .inl a :: st))) := lv_icmp_eq X.1 X.2.1 hd ht (fun z => absurd ((tq_eq_s a b).mpr z) (by rw [hq]; decide)) (fun _ => k)
theorem w_if_eq1 {a tgt : Nat} {off : Int} (X : xCtx Dg cl tys base GW Ex y cc nL ret dl p R s m args meth cd) (N : xNow Dg cl cA fl ft base adS d h n nL ls s H locs lsA) (hq : tq_eq a 0 = true) (ht : (pc : Int) + off = (tgt : Int)) (hd : decode cc pc = .ok (.ifCond .eq off, 3)) (k : W p l e R s m args below meth cd H locs cells slots Q (F0 m tgt lsA (List.map (xval (xad base adS)) st))) : W p l e R s m args below meth cd H locs cells slots Q (F0 m pc lsA (List.map (xval (xad base adS)) (.inl a :: st))) := lv_if_eq X.1 X.2.1 hd ht (fun _ => k) (fun z => (z (by have q := (tq_eq_s a 0).mp hq; rw [nI_0] at q; exact q)).elim)
theorem w_if_eq0 {a tgt : Nat} {off : Int} (X : xCtx Dg cl tys base GW Ex y cc nL ret dl p R s m args meth cd) (N : xNow Dg cl cA fl ft base adS d h n nL ls s H locs lsA) (hq : tq_eq a 0 = false) (ht : (pc : Int) + off = (tgt : Int)) (hd : decode cc pc = .ok (.ifCond .eq off, 3)) (k : W p l e R s m args below meth cd H locs cells slots Q (F0 m (pc + 3) lsA (List.map (xval (xad base adS)) st))) : W p l e R s m args below meth cd H locs cells slots Q (F0 m pc lsA (List.map (xval (xad base adS)) (.inl a :: st))) := lv_if_eq X.1 X.2.1 hd ht (fun z => absurd ((tq_eq_s a 0).mpr (by rw [nI_0]; exact z)) (by rw [hq]; decide)) (fun _ => k)
theorem w_icmp_ne1 {a b tgt : Nat} {off : Int} (X : xCtx Dg cl tys base GW Ex y cc nL ret dl p R s m args meth cd) (N : xNow Dg cl cA fl ft base adS d h n nL ls s H locs lsA) (hq : tq_ne a b = true) (ht : (pc : Int) + off = (tgt : Int)) (hd : decode cc pc = .ok (.if_icmp .ne off, 3)) (k : W p l e R s m args below meth cd H locs cells slots Q (F0 m tgt lsA (List.map (xval (xad base adS)) st))) : W p l e R s m args below meth cd H locs cells slots Q (F0 m pc lsA (List.map (xval (xad base adS)) (.inl b :: .inl a :: st))) := lv_icmp_ne X.1 X.2.1 hd ht (fun _ => k) (fun z => absurd z ((tq_ne_s a b).mp hq))
theorem w_icmp_ne0 {a b tgt : Nat} {off : Int} (X : xCtx Dg cl tys base GW Ex y cc nL ret dl p R s m args meth cd) (N : xNow Dg cl cA fl ft base adS d h n nL ls s H locs lsA) (hq : tq_ne a b = false) (ht : (pc : Int) + off = (tgt : Int)) (hd : decode cc pc = .ok (.if_icmp .ne off, 3)) (k : W p l e R s m args below meth cd H locs cells slots Q (F0 m (pc + 3) lsA (List.map (xval (xad base adS)) st))) : W p l e R s m args below meth cd H locs cells slots Q (F0 m pc lsA (List.map (xval (xad base adS)) (.inl b :: .inl a :: st))) := lv_icmp_ne X.1 X.2.1 hd ht (fun z => absurd ((tq_ne_s a b).mpr z) (by rw [hq]; decide)) (fun _ => k)
theorem w_if_ne1 {a tgt : Nat} {off : Int} (X : xCtx Dg cl tys base GW Ex y cc nL ret dl p R s m args meth cd) (N : xNow Dg cl cA fl ft base adS d h n nL ls s H locs lsA) (hq : tq_ne a 0 = true) (ht : (pc : Int) + off = (tgt : Int)) (hd : decode cc pc = .ok (.ifCond .ne off, 3)) (k : W p l e R s m args below meth cd H locs cells slots Q (F0 m tgt lsA (List.map (xval (xad base adS)) st))) : W p l e R s m args below meth cd H locs cells slots Q (F0 m pc lsA (List.map (xval (xad base adS)) (.inl a :: st))) := lv_if_ne X.1 X.2.1 hd ht (fun _ => k) (fun z => absurd (show nI a = nI 0 by rw [nI_0]; exact z) ((tq_ne_s a 0).mp hq))
theorem w_if_ne0 {a tgt : Nat} {off : Int} (X : xCtx Dg cl tys base GW Ex y cc nL ret dl p R s m args meth cd) (N : xNow Dg cl cA fl ft base adS d h n nL ls s H locs lsA) (hq : tq_ne a 0 = false) (ht : (pc : Int) + off = (tgt : Int)) (hd : decode cc pc = .ok (.ifCond .ne off, 3)) (k : W p l e R s m args below meth cd H locs cells slots Q (F0 m (pc + 3) lsA (List.map (xval (xad base adS)) st))) : W p l e R s m args below meth cd H locs cells slots Q (F0 m pc lsA (List.map (xval (xad base adS)) (.inl a :: st))) := lv_if_ne X.1 X.2.1 hd ht (fun z => absurd ((tq_ne_s a 0).mpr (by rw [nI_0]; exact z)) (by rw [hq]; decide)) (fun _ => k)
theorem w_icmp_lt1 {a b tgt : Nat} {off : Int} (X : xCtx Dg cl tys base GW Ex y cc nL ret dl p R s m args meth cd) (N : xNow Dg cl cA fl ft base adS d h n nL ls s H locs lsA) (hq : tq_lt a b = true) (ht : (pc : Int) + off = (tgt : Int)) (hd : decode cc pc = .ok (.if_icmp .lt off, 3)) (k : W p l e R s m args below meth cd H locs cells slots Q (F0 m tgt lsA (List.map (xval (xad base adS)) st))) : W p l e R s m args below meth cd H locs cells slots Q (F0 m pc lsA (List.map (xval (xad base adS)) (.inl b :: .inl a :: st))) := lv_icmp_lt X.1 X.2.1 hd ht (fun _ => k) (fun z => absurd ((tq_lt_s a b).mp hq) z)
theorem w_icmp_lt0 {a b tgt : Nat} {off : Int} (X : xCtx Dg cl tys base GW Ex y cc nL ret dl p R s m args meth cd) (N : xNow Dg cl cA fl ft base adS d h n nL ls s H locs lsA) (hq : tq_lt a b = false) (ht : (pc : Int) + off = (tgt : Int)) (hd : decode cc pc = .ok (.if_icmp .lt off, 3)) (k : W p l e R s m args below meth cd H locs cells slots Q (F0 m (pc + 3) lsA (List.map (xval (xad base adS)) st))) : W p l e R s m args below meth cd H locs cells slots Q (F0 m pc lsA (List.map (xval (xad base adS)) (.inl b :: .inl a :: st))) := lv_icmp_lt X.1 X.2.1 hd ht (fun z => absurd ((tq_lt_s a b).mpr z) (by rw [hq]; decide)) (fun _ => k)
theorem w_if_lt1 {a tgt : Nat} {off : Int} (X : xCtx Dg cl tys base GW Ex y cc nL ret dl p R s m args meth cd) (N : xNow Dg cl cA fl ft base adS d h n nL ls s H locs lsA) (hq : tq_lt a 0 = true) (ht : (pc : Int) + off = (tgt : Int)) (hd : decode cc pc = .ok (.ifCond .lt off, 3)) (k : W p l e R s m args below meth cd H locs cells slots Q (F0 m tgt lsA (List.map (xval (xad base adS)) st))) : W p l e R s m args below meth cd H locs cells slots Q (F0 m pc lsA (List.map (xval (xad base adS)) (.inl a :: st))) := lv_if_lt X.1 X.2.1 hd ht (fun _ => k) (fun z => (z (by have q := (tq_lt_s a 0).mp hq; rw [nI_0] at q; exact q)).elim)
theorem w_if_lt0 {a tgt : Nat} {off : Int} (X : xCtx Dg cl tys base GW Ex y cc nL ret dl p R s m args meth cd) (N : xNow Dg cl cA fl ft base adS d h n nL ls s H locs lsA) (hq : tq_lt a 0 = false) (ht : (pc : Int) + off = (tgt : Int)) (hd : decode cc pc = .ok (.ifCond .lt off, 3)) (k : W p l e R s m args below meth cd H locs cells slots Q (F0 m (pc + 3) lsA (List.map (xval (xad base adS)) st))) : W p l e R s m args below meth cd H locs cells slots Q (F0 m pc lsA (List.map (xval (xad base adS)) (.inl a :: st))) := lv_if_lt X.1 X.2.1 hd ht (fun z => absurd ((tq_lt_s a 0).mpr (by rw [nI_0]; exact z)) (by rw [hq]; decide)) (fun _ => k)
theorem w_icmp_ge1 {a b tgt : Nat} {off : Int} (X : xCtx Dg cl tys base GW Ex y cc nL ret dl p R s m args meth cd) (N : xNow Dg cl cA fl ft base adS d h n nL ls s H locs lsA) (hq : tq_ge a b = true) (ht : (pc : Int) + off = (tgt : Int)) (hd : decode cc pc = .ok (.if_icmp .ge off, 3)) (k : W p l e R s m args below meth cd H locs cells slots Q (F0 m tgt lsA (List.map (xval (xad base adS)) st))) : W p l e R s m args below meth cd H locs cells slots Q (F0 m pc lsA (List.map (xval (xad base adS)) (.inl b :: .inl a :: st))) := lv_icmp_ge X.1 X.2.1 hd ht (fun _ => k) (fun z => absurd ((tq_ge_s a b).mp hq) z)
theorem w_icmp_ge0 {a b tgt : Nat} {off : Int} (X : xCtx Dg cl tys base GW Ex y cc nL ret dl p R s m args meth cd) (N : xNow Dg cl cA fl ft base adS d h n nL ls s H locs lsA) (hq : tq_ge a b = false) (ht : (pc : Int) + off = (tgt : Int)) (hd : decode cc pc = .ok (.if_icmp .ge off, 3)) (k : W p l e R s m args below meth cd H locs cells slots Q (F0 m (pc + 3) lsA (List.map (xval (xad base adS)) st))) : W p l e R s m args below meth cd H locs cells slots Q (F0 m pc lsA (List.map (xval (xad base adS)) (.inl b :: .inl a :: st))) := lv_icmp_ge X.1 X.2.1 hd ht (fun z => absurd ((tq_ge_s a b).mpr z) (by rw [hq]; decide)) (fun _ => k)
theorem w_if_ge1 {a tgt : Nat} {off : Int} (X : xCtx Dg cl tys base GW Ex y cc nL ret dl p R s m args meth cd) (N : xNow Dg cl cA fl ft base adS d h n nL ls s H locs lsA) (hq : tq_ge a 0 = true) (ht : (pc : Int) + off = (tgt : Int)) (hd : decode cc pc = .ok (.ifCond .ge off, 3)) (k : W p l e R s m args below meth cd H locs cells slots Q (F0 m tgt lsA (List.map (xval (xad base adS)) st))) : W p l e R s m args below meth cd H locs cells slots Q (F0 m pc lsA (List.map (xval (xad base adS)) (.inl a :: st))) := lv_if_ge X.1 X.2.1 hd ht (fun _ => k) (fun z => (z (by have q := (tq_ge_s a 0).mp hq; rw [nI_0] at q; exact q)).elim)
theorem w_if_ge0 {a tgt : Nat} {off : Int} (X : xCtx Dg cl tys base GW Ex y cc nL ret dl p R s m args meth cd) (N : xNow Dg cl cA fl ft base adS d h n nL ls s H locs lsA) (hq : tq_ge a 0 = false) (ht : (pc : Int) + off = (tgt : Int)) (hd : decode cc pc = .ok (.ifCond .ge off, 3)) (k : W p l e R s m args below meth cd H locs cells slots Q (F0 m (pc + 3) lsA (List.map (xval (xad base adS)) st))) : W p l e R s m args below meth cd H locs cells slots Q (F0 m pc lsA (List.map (xval (xad base adS)) (.inl a :: st))) := lv_if_ge X.1 X.2.1 hd ht (fun z => absurd ((tq_ge_s a 0).mpr (by rw [nI_0]; exact z)) (by rw [hq]; decide)) (fun _ => k)
theorem w_icmp_gt1 {a b tgt : Nat} {off : Int} (X : xCtx Dg cl tys base GW Ex y cc nL ret dl p R s m args meth cd) (N : xNow Dg cl cA fl ft base adS d h n nL ls s H locs lsA) (hq : tq_gt a b = true) (ht : (pc : Int) + off = (tgt : Int)) (hd : decode cc pc = .ok (.if_icmp .gt off, 3)) (k : W p l e R s m args below meth cd H locs cells slots Q (F0 m tgt lsA (List.map (xval (xad base adS)) st))) : W p l e R s m args below meth cd H locs cells slots Q (F0 m pc lsA (List.map (xval (xad base adS)) (.inl b :: .inl a :: st))) := lv_icmp_gt X.1 X.2.1 hd ht (fun _ => k) (fun z => absurd ((tq_gt_s a b).mp hq) z)
theorem w_icmp_gt0 {a b tgt : Nat} {off : Int} (X : xCtx Dg cl tys base GW Ex y cc nL ret dl p R s m args meth cd) (N : xNow Dg cl cA fl ft base adS d h n nL ls s H locs lsA) (hq : tq_gt a b = false) (ht : (pc : Int) + off = (tgt : Int)) (hd : decode cc pc = .ok (.if_icmp .gt off, 3)) (k : W p l e R s m args below meth cd H locs cells slots Q (F0 m (pc + 3) lsA (List.map (xval (xad base adS)) st))) : W p l e R s m args below meth cd H locs cells slots Q (F0 m pc lsA (List.map (xval (xad base adS)) (.inl b :: .inl a :: st))) := lv_icmp_gt X.1 X.2.1 hd ht (fun z => absurd ((tq_gt_s a b).mpr z) (by rw [hq]; decide)) (fun _ => k)
theorem w_if_gt1 {a tgt : Nat} {off : Int} (X : xCtx Dg cl tys base GW Ex y cc nL ret dl p R s m args meth cd) (N : xNow Dg cl cA fl ft base adS d h n nL ls s H locs lsA) (hq : tq_gt a 0 = true) (ht : (pc : Int) + off = (tgt : Int)) (hd : decode cc pc = .ok (.ifCond .gt off, 3)) (k : W p l e R s m args below meth cd H locs cells slots Q (F0 m tgt lsA (List.map (xval (xad base adS)) st))) : W p l e R s m args below meth cd H locs cells slots Q (F0 m pc lsA (List.map (xval (xad base adS)) (.inl a :: st))) := lv_if_gt X.1 X.2.1 hd ht (fun _ => k) (fun z => (z (by have q := (tq_gt_s a 0).mp hq; rw [nI_0] at q; exact q)).elim)
theorem w_if_gt0 {a tgt : Nat} {off : Int} (X : xCtx Dg cl tys base GW Ex y cc nL ret dl p R s m args meth cd) (N : xNow Dg cl cA fl ft base adS d h n nL ls s H locs lsA) (hq : tq_gt a 0 = false) (ht : (pc : Int) + off = (tgt : Int)) (hd : decode cc pc = .ok (.ifCond .gt off, 3)) (k : W p l e R s m args below meth cd H locs cells slots Q (F0 m (pc + 3) lsA (List.map (xval (xad base adS)) st))) : W p l e R s m args below meth cd H locs cells slots Q (F0 m pc lsA (List.map (xval (xad base adS)) (.inl a :: st))) := lv_if_gt X.1 X.2.1 hd ht (fun z => absurd ((tq_gt_s a 0).mpr (by rw [nI_0]; exact z)) (by rw [hq]; decide)) (fun _ => k)
theorem w_icmp_le1 {a b tgt : Nat} {off : Int} (X : xCtx Dg cl tys base GW Ex y cc nL ret dl p R s m args meth cd) (N : xNow Dg cl cA fl ft base adS d h n nL ls s H locs lsA) (hq : tq_le a b = true) (ht : (pc : Int) + off = (tgt : Int)) (hd : decode cc pc = .ok (.if_icmp .le off, 3)) (k : W p l e R s m args below meth cd H locs cells slots Q (F0 m tgt lsA (List.map (xval (xad base adS)) st))) : W p l e R s m args below meth cd H locs cells slots Q (F0 m pc lsA (List.map (xval (xad base adS)) (.inl b :: .inl a :: st))) := lv_icmp_le X.1 X.2.1 hd ht (fun _ => k) (fun z => absurd ((tq_le_s a b).mp hq) z)
theorem w_icmp_le0 {a b tgt : Nat} {off : Int} (X : xCtx Dg cl tys base GW Ex y cc nL ret dl p R s m args meth cd) (N : xNow Dg cl cA fl ft base adS d h n nL ls s H locs lsA) (hq : tq_le a b = false) (ht : (pc : Int) + off = (tgt : Int)) (hd : decode cc pc = .ok (.if_icmp .le off, 3)) (k : W p l e R s m args below meth cd H locs cells slots Q (F0 m (pc + 3) lsA (List.map (xval (xad base adS)) st))) : W p l e R s m args below meth cd H locs cells slots Q (F0 m pc lsA (List.map (xval (xad base adS)) (.inl b :: .inl a :: st))) := lv_icmp_le X.1 X.2.1 hd ht (fun z => absurd ((tq_le_s a b).mpr z) (by rw [hq]; decide)) (fun _ => k)
theorem w_if_le1 {a tgt : Nat} {off : Int} (X : xCtx Dg cl tys base GW Ex y cc nL ret dl p R s m args meth cd) (N : xNow Dg cl cA fl ft base adS d h n nL ls s H locs lsA) (hq : tq_le a 0 = true) (ht : (pc : Int) + off = (tgt : Int)) (hd : decode cc pc = .ok (.ifCond .le off, 3)) (k : W p l e R s m args below meth cd H locs cells slots Q (F0 m tgt lsA (List.map (xval (xad base adS)) st))) : W p l e R s m args below meth cd H locs cells slots Q (F0 m pc lsA (List.map (xval (xad base adS)) (.inl a :: st))) := lv_if_le X.1 X.2.1 hd ht (fun _ => k) (fun z => (z (by have q := (tq_le_s a 0).mp hq; rw [nI_0] at q; exact q)).elim)
theorem w_if_le0 {a tgt : Nat} {off : Int} (X : xCtx Dg cl tys base GW Ex y cc nL ret dl p R s m args meth cd) (N : xNow Dg cl cA fl ft base adS d h n nL ls s H locs lsA) (hq : tq_le a 0 = false) (ht : (pc : Int) + off = (tgt : Int)) (hd : decode cc pc = .ok (.ifCond .le off, 3)) (k : W p l e R s m args below meth cd H locs cells slots Q (F0 m (pc + 3) lsA (List.map (xval (xad base adS)) st))) : W p l e R s m args below meth cd H locs cells slots Q (F0 m pc lsA (List.map (xval (xad base adS)) (.inl a :: st))) := lv_if_le X.1 X.2.1 hd ht (fun z => absurd ((tq_le_s a 0).mpr (by rw [nI_0]; exact z)) (by rw [hq]; decide)) (fun _ => k)
theorem w_goto {tgt : Nat} {off : Int} (X : xCtx Dg cl tys base GW Ex y cc nL ret dl p R s m args meth cd) (N : xNow Dg cl cA fl ft base adS d h n nL ls s H locs lsA) (ht : (pc : Int) + off = (tgt : Int)) (hd : decode cc pc = .ok (.goto off, 3)) (k : W p l e R s m args below meth cd H locs cells slots Q (F0 m tgt lsA (List.map (xval (xad base adS)) st))) : W p l e R s m args below meth cd H locs cells slots Q (F0 m pc lsA (List.map (xval (xad base adS)) st)) := lv_goto X.1 X.2.1 hd ht k
theorem w_look {a len tgt : Nat} {dflt off : Int} {ps : Array (Int × Int)} (X : xCtx Dg cl tys base GW Ex y cc nL ret dl p R s m args meth cd) (N : xNow Dg cl cA fl ft base adS d h n nL ls s H locs lsA) (hd : decode cc pc = .ok (.lookupswitch dflt ps, len)) (hp : (ps.toList.zip (ps.toList.drop 1)).all (fun (a, next) => a.1 < next.1) = true) (ho : Op.lookupswitch.offset ps.toList dflt (nI a).toInt = off) (ht : (pc : Int) + off = (tgt : Int)) (k : W p l e R s m args below meth cd H locs cells slots Q (F0 m tgt lsA (List.map (xval (xad base adS)) st))) : W p l e R s m args below meth cd H locs cells slots Q (F0 m pc lsA (List.map (xval (xad base adS)) (.inl a :: st))) := lv_lookup X.1 X.2.1 hd hp ho ht k
theorem w_tabi {a len tgt : Nat} {dflt lo hi off : Int} {offs : Array Int} (X : xCtx Dg cl tys base GW Ex y cc nL ret dl p R s m args meth cd) (N : xNow Dg cl cA fl ft base adS d h n nL ls s H locs lsA) (hd : decode cc pc = .ok (.tableswitch dflt lo hi offs, len)) (h1 : ¬ (nI a).toInt < lo) (h2 : ¬ hi < (nI a).toInt) (ho : offs[((nI a).toInt - lo).toNat]? = some off) (ht : (pc : Int) + off = (tgt : Int)) (k : W p l e R s m args below meth cd H locs cells slots Q (F0 m tgt lsA (List.map (xval (xad base adS)) st))) : W p l e R s m args below meth cd H locs cells slots Q (F0 m pc lsA (List.map (xval (xad base adS)) (.inl a :: st))) := lv_tableIn X.1 X.2.1 hd h1 h2 ho ht k
theorem w_tabo {a len tgt : Nat} {dflt lo hi : Int} {offs : Array Int} (X : xCtx Dg cl tys base GW Ex y cc nL ret dl p R s m args meth cd) (N : xNow Dg cl cA fl ft base adS d h n nL ls s H locs lsA) (hd : decode cc pc = .ok (.tableswitch dflt lo hi offs, len)) (ho : (nI a).toInt < lo ∨ hi < (nI a).toInt) (ht : (pc : Int) + dflt = (tgt : Int)) (k : W p l e R s m args below meth cd H locs cells slots Q (F0 m tgt lsA (List.map (xval (xad base adS)) st))) : W p l e R s m args below meth cd H locs cells slots Q (F0 m pc lsA (List.map (xval (xad base adS)) (.inl a :: st))) := lv_tableOut X.1 X.2.1 hd ho ht k
theorem w_geti {ci i N0 index o v : Nat} {C : String} {T : u_T} {ty : Nat → FieldType} (X : xCtx Dg cl tys base GW Ex y cc nL ret dl p R s m args meth cd) (N : xNow Dg cl cA fl ft base adS d h n nL ls s H locs lsA) (hC : xCl cl fl GW ci C T N0 ty) (hi : i < N0) (hf : ft ci i = 0) (hw : Cond.fieldLink y.cls index C (T i).2.1 (T i).2.2.1 ∈ GW) (ho : (T i).1 = C) (hd : decode cc pc = .ok (.getfield index, 3)) (hq : o < n) (hk : (xget d h o).1 = ci + 8) (hv : xd8 (xget d h o).2.2 i = v) (k : W p l e R s m args below meth cd H locs cells slots Q (F0 m (pc + 3) lsA (List.map (xval (xad base adS)) (.inl v :: st)))) : W p l e R s m args below meth cd H locs cells slots Q (F0 m pc lsA (List.map (xval (xad base adS)) (.inr (.inr (o + 1)) :: st))) := by
  subst hv
  obtain ⟨c1, c2, c3, c4, c5⟩ := hC
  exact va_get (ref := C) (own := y.cls) (a := xad base adS o) (v := .int (nI (xd8 (xget d h o).2.2 i))) X.1 X.2.1 X.2.2.2.2.2.2.2.1 c3 X.2.2.2.2.2.1 X.2.2.2.2.2.2.2.2.1 N.2.2.1 o (by rw [xws_get hq, xcell_obj hk]) c1 i hi (X.2.2.2.2.2.2.2.1 _ hw) (fun x hx => by rw [ho] at hx; exact hx) (by rw [List.getElem?_map, List.getElem?_range (by rw [c2]; exact hi)]; show some (xfv _ (ft ci i) _) = _; rw [hf]; rfl) hd k
theorem w_getr {ci i N0 index o v : Nat} {C : String} {T : u_T} {ty : Nat → FieldType} (X : xCtx Dg cl tys base GW Ex y cc nL ret dl p R s m args meth cd) (N : xNow Dg cl cA fl ft base adS d h n nL ls s H locs lsA) (hC : xCl cl fl GW ci C T N0 ty) (hi : i < N0) (hf : ft ci i = 2) (hw : Cond.fieldLink y.cls index C (T i).2.1 (T i).2.2.1 ∈ GW) (ho : (T i).1 = C) (hd : decode cc pc = .ok (.getfield index, 3)) (hq : o < n) (hk : (xget d h o).1 = ci + 8) (hv : xd8 (xget d h o).2.2 i = v) (k : W p l e R s m args below meth cd H locs cells slots Q (F0 m (pc + 3) lsA (List.map (xval (xad base adS)) (.inr (.inr v) :: st)))) : W p l e R s m args below meth cd H locs cells slots Q (F0 m pc lsA (List.map (xval (xad base adS)) (.inr (.inr (o + 1)) :: st))) := by
  subst hv
  obtain ⟨c1, c2, c3, c4, c5⟩ := hC
  exact va_get (ref := C) (own := y.cls) (a := xad base adS o) (v := xval (xad base adS) (.inr (.inr (xd8 (xget d h o).2.2 i)))) X.1 X.2.1 X.2.2.2.2.2.2.2.1 c3 X.2.2.2.2.2.1 X.2.2.2.2.2.2.2.2.1 N.2.2.1 o (by rw [xws_get hq, xcell_obj hk]) c1 i hi (X.2.2.2.2.2.2.2.1 _ hw) (fun x hx => by rw [ho] at hx; exact hx) (by rw [List.getElem?_map, List.getElem?_range (by rw [c2]; exact hi)]; show some (xfv _ (ft ci i) _) = _; rw [hf]; cases xd8 (xget d h o).2.2 i <;> rfl) hd k
theorem w_puti {ci i N0 index o a : Nat} {C : String} {T : u_T} {ty : Nat → FieldType} (X : xCtx Dg cl tys base GW Ex y cc nL ret dl p R s m args meth cd) (N : xNow Dg cl cA fl ft base adS d h n nL ls s H locs lsA) (hd9 : 2 ^ d ≤ 1000) (hC : xCl cl fl GW ci C T N0 ty) (hi : i < N0) (hf : ft ci i = 0) (hty : ty i = .int) (hfin : (T i).2.2.2 = true → y.name = "<init>" ∧ C = y.cls) (hw : Cond.fieldLink y.cls index C (T i).2.1 (T i).2.2.1 ∈ GW) (ho : (T i).1 = C) (hd : decode cc pc = .ok (.putfield index, 3)) (hq : o < n) (hk : (xget d h o).1 = ci + 8) (hA : xok8 (xget d h o).2.2 = true) (he : xset d h o (ci + 8, (0, xs8 (xget d h o).2.2 i (Nat.mod a 4294967296))) = h') (k : ∀ (H1 : Heap) (locs1 : List Loc), xNow Dg cl cA fl ft base adS d h' n nL ls s H1 locs1 lsA → W p l e R s m args below meth cd H1 locs1 cells slots Q (F0 m (pc + 3) lsA (List.map (xval (xad base adS)) st))) : W p l e R s m args below meth cd H locs cells slots Q (F0 m pc lsA (List.map (xval (xad base adS)) (.inl a :: .inr (.inr (o + 1)) :: st))) := by
  subst he
  exact x_put (mi := 0) (xy := fun _ => y) (xc := fun _ => cc) (xn := fun _ => nL) (xr := fun _ => ret) hd9 X N hC hi hw ho hq hk (by rw [hf]; exact congrArg Value.int (xn_mod a).symm) (Nat.lt_trans (Nat.mod_lt a (by decide)) (by decide)) hA (by rw [hty]; rfl) (by rw [hty]; rfl) hfin hd k
theorem w_putz {ci i N0 index o a : Nat} {C : String} {T : u_T} {ty : Nat → FieldType} (X : xCtx Dg cl tys base GW Ex y cc nL ret dl p R s m args meth cd) (N : xNow Dg cl cA fl ft base adS d h n nL ls s H locs lsA) (ha : a < 2) (hd9 : 2 ^ d ≤ 1000) (hC : xCl cl fl GW ci C T N0 ty) (hi : i < N0) (hf : ft ci i = 0) (hty : ty i = .boolean) (hfin : (T i).2.2.2 = true → y.name = "<init>" ∧ C = y.cls) (hw : Cond.fieldLink y.cls index C (T i).2.1 (T i).2.2.1 ∈ GW) (ho : (T i).1 = C) (hd : decode cc pc = .ok (.putfield index, 3)) (hq : o < n) (hk : (xget d h o).1 = ci + 8) (hA : xok8 (xget d h o).2.2 = true) (he : xset d h o (ci + 8, (0, xs8 (xget d h o).2.2 i (a))) = h') (k : ∀ (H1 : Heap) (locs1 : List Loc), xNow Dg cl cA fl ft base adS d h' n nL ls s H1 locs1 lsA → W p l e R s m args below meth cd H1 locs1 cells slots Q (F0 m (pc + 3) lsA (List.map (xval (xad base adS)) st))) : W p l e R s m args below meth cd H locs cells slots Q (F0 m pc lsA (List.map (xval (xad base adS)) (.inl a :: .inr (.inr (o + 1)) :: st))) := by
  subst he
  exact x_put (mi := 0) (xy := fun _ => y) (xc := fun _ => cc) (xn := fun _ => nL) (xr := fun _ => ret) hd9 X N hC hi hw ho hq hk (by rw [hf]; rfl) (by omega) hA (by rw [hty]; rcases (show a = 0 ∨ a = 1 by omega) with rfl | rfl <;> rfl) (by rw [hty]; rcases (show a = 0 ∨ a = 1 by omega) with rfl | rfl <;> rfl) hfin hd k
theorem w_last {t0 o i a mm A : Nat} (X : xCtx Dg cl tys base GW Ex y cc nL ret dl p R s m args meth cd) (N : xNow Dg cl cA fl ft base adS d h n nL ls s H locs lsA) (hd9 : 2 ^ d ≤ 1000) (ht : tys[t0]? = some (cA 3, .long)) (hd : decode cc pc = .ok (.lastore, 1)) (q1 : o < n) (hc : xget d h o = (3, (mm, A))) (q2 : i < mm) (q3 : i < 2147483648) (q9 : xok8 A = true) (hh : xset d h o (3, (mm, xs8 A i (Nat.mod a 18446744073709551616))) = h') (k : ∀ (H1 : Heap) (locs1 : List Loc), xNow Dg cl cA fl ft base adS d h' n nL ls s H1 locs1 lsA → W p l e R s m args below meth cd H1 locs1 cells slots Q (F0 m (pc + 1) lsA (List.map (xval (xad base adS)) st))) : W p l e R s m args below meth cd H locs cells slots Q (F0 m pc lsA (List.map (xval (xad base adS)) (.inr (.inl a) :: .inl i :: .inr (.inr (o + 1)) :: st))) := by
  subst hh
  have he : (xws (xad base adS) cA fl ft (xget d h) n)[o]? = some (xad base adS o, .inl (cA 3, (mm, .inr (.inl (fun i => lN (xd8 A i)))))) := by rw [xws_get q1, hc]; rfl
  refine W.last (j := nI i) (x := lN a) X.1 X.2.1 (N.2.2.1 o _ he) ((X.2.2.2.2.2.2.2.2.1.2 t0 _ ht).1 mm (fun j => .long (lN (xd8 A j)))) (fun z => by cases z) (by show ¬ (nI i < 0 ∨ (arrV _ _ _).slots.size ≤ _); rw [arrV_size]; exact xn_in q3 q2) rfl rfl hd fun H1 e1 z oq => ?_
  refine k H1 _ (N.put hd9 q1 (e1 := .inl (cA 3, (mm, .inr (.inl (fun j => lN (xd8 (xs8 A i (Nat.mod a 18446744073709551616)) j)))))) rfl ?_ z oq)
  show H1[xad base adS o]? = some (vp_cell _ _)
  rw [e1, vp_cell_l, xn_clamp q3]
  show some ((arrV _ _ _).setSlot i _) = _
  rw [arrV_store]
  show some (arrV (cA 3) mm _) = some (arrV (cA 3) mm (fun j => Value.long (lN (xd8 (xs8 A i (Nat.mod a 18446744073709551616)) j))))
  refine congrArg (fun z => some (arrV (cA 3) mm z)) (funext fun y => ?_)
  have hlt : Nat.mod a 18446744073709551616 < 18446744073709551616 := Nat.mod_lt a (by decide)
  rw [xd8_s A i (Nat.mod a 18446744073709551616) y hlt q9]
  by_cases hy : y = i
  · subst hy
    rw [if_pos rfl]
    show updV _ _ _ _ = _
    simp only [updV, if_true]
    exact congrArg Value.long (xl_mod a).symm
  · rw [if_neg hy]
    show updV _ _ _ _ = _
    simp only [updV, if_neg hy]
end WALK
section VYT
variable {p : Program} {l : Launch} {e : Env} {R : Room} {s : State} {m : MethodId} {args : Array Value} {below : List Frame} {meth : Method} {c : Code} {H : Heap} {locs : List Loc} {cells slots : Nat}
variable {free : Addr → Prop} {ls : Array Slot} {rest : List Value} {Qc : Array Value → State → Outcome → State → Prop} {XC : String → State → State → Prop}
/-- not caught here (begun from the starting text laws/EXCEPTIONS, vx_out) -/
theorem vy_out {pc : Nat} {E : String} {ce : Cell} {q : Addr} {mc ms : Nat} (hout : ∀ x ∈ c.exceptionTable.toList, covers x pc = false) (hlocks : meth.locks = false) (hcell : H[q]? = some ce) (hv : ce.vm = .none) (hcl : s.vm.findClass E = some ce.cls)
    (hx : ∀ t : State, t.heap = H → s.WarmedH t.vm → XC E s t) (hf : ∀ z ∈ locs, free z.base) (hc : cells ≤ mc) (hs : slots ≤ ms) :
    vx_W p l e R s m args below meth c H locs cells slots (vx_MQ below Qc XC args s mc ms free) (F0 m pc ls rest) q := by
  intro T hT X
  obtain ⟨st1, hrun, hend, hW, hsm⟩ := X.leaveThrown q (g := F0 m pc ls rest) rfl rfl rfl hout hlocks
  have hcell9 : (T.setFrames (.throwing q :: below)).heap[q]? = some ce := by
    show T.heap[q]? = some ce
    rw [hT]; exact hcell
  exact ⟨_, st1, .threw q, hrun, hend, Or.inr ⟨q, rfl, E, ce, locs, hx _ hT hW, hcell9, hv, hcl, hW, hsm.mono hc hs, hf⟩⟩
/-- 'throw new E()', one new cell (begun from the starting text laws/EXCEPTIONS, vx_throw0) -/
theorem vy_throw0 {cc : ByteArray} {pc : Nat} (hexec : p.tables.exec = Jvm.exec) (hb : c.code = cc) (hl : l.stackTraces = false) {own cls : String} {names : List String} {ik ic mc ms : Nat} {A : Nat → Prop}
    (hown : s.vm.findClass own = some m.cls) (hcls : Bundle.fit cls = true) (hnames : ∀ n ∈ names, Bundle.fit n = true)
    (hk : (Cond.classLink own ik cls).before args s = true) (hini : (Cond.initialized cls).before args s = true) (hat : ∀ w ∈ vx_at0 own ic cls names, w.before args s = true)
    (hgood : ∀ w ∈ Cond.classLink own ik cls :: Cond.initialized cls :: vx_at0 own ic cls names, vx_ot w = true)
    (hU : vx_Zq Bundle.tN "UNASSIGNED_STACK" Bundle.steD A s s.heap) (hN : vx_Zq Bundle.tN "SUPPRESSED_SENTINEL" Bundle.listD A s s.heap) (hS : va_S A s.heap H locs) (hsize : ls.size = c.maxLocals)
    (d0 : decode cc pc = .ok (.new ik, 3)) (d3 : decode cc (pc + 3) = .ok (.dup, 1)) (d4 : decode cc (pc + 4) = .ok (.invokespecial ic, 3)) (d7 : decode cc (pc + 7) = .ok (.athrow, 1))
    (hout : ∀ x ∈ c.exceptionTable.toList, covers x (pc + 7) = false)
    (hRframes : names.length + 3 < R.frames) (hRlocals : (rest.map fun v => v.category).sum + (13 * (names.length + 1) + 42) ≤ R.locals) (hRcells : cells + 1 ≤ R.cells) (hRslots : slots + 6 ≤ R.slots) (hlocks : meth.locks = false)
    (hx : ∀ t : State, s.WarmedH t.vm → t.heap.size = H.size + 1 → (∀ q : Nat, q < H.size → t.heap[q]? = H[q]?) → XC cls s t)
    (hf : ∀ z ∈ locs, free z.base) (hc : cells + 1 ≤ mc) (hs : slots + 6 ≤ ms) :
    W p l e R s m args below meth c H locs cells slots (vx_MQ below Qc XC args s mc ms free) (F0 m pc ls rest) := by
  intro T hT X
  have htr : e.platform.stackTraces = false := (show e.platform.stackTraces = l.stackTraces by rw [X.admits.platform]).trans hl
  have Y := vx_rebase X (R' := { frames := R.frames, locals := R.locals, cells := 1, slots := 6 }) (Nat.le_refl _) (Nat.le_refl _) hRcells hRslots
  obtain ⟨s', hA⟩ : ∃ z, z = (T.setVm s.vm).setFrames (.invoking m args :: below) := ⟨_, rfl⟩
  rw [← hA] at Y
  have hvm : s'.vm = s.vm := by rw [hA]; rfl
  have hhp : s'.heap = H := by rw [hA]; exact hT
  have hW0 : s.WarmedH s'.vm := by rw [hvm]; exact State.WarmedH.refl s
  have hat' : ∀ w ∈ vx_at0 own ic cls names, w.before args s' = true := fun w hw => vx_ot_at hW0 hvm.symm (hgood w (List.mem_cons_of_mem _ (List.mem_cons_of_mem _ hw))) (hat w hw)
  have hk' : (Cond.classLink own ik cls).before args s' = true := vx_ot_at hW0 hvm.symm (hgood _ List.mem_cons_self) hk
  have hini' : (Cond.initialized cls).before args s' = true := vx_ot_at hW0 hvm.symm (hgood _ (List.mem_cons_of_mem _ List.mem_cons_self)) hini
  have hU' : vx_Zq Bundle.tN "UNASSIGNED_STACK" Bundle.steD A s' s'.heap := by rw [hhp]; exact vx_Zq.moved hW0.alike (hU.kept hS.2.1)
  have hN' : vx_Zq Bundle.tN "SUPPRESSED_SENTINEL" Bundle.listD A s' s'.heap := by rw [hhp]; exact vx_Zq.moved hW0.alike (hN.kept hS.2.1)
  have h : ∀ w ∈ Bundle.ownAtoms0 own ic cls names, w.before args s' = true := vx_own hat' (vx_isRefq hU'.1) (vx_isRefq hN'.1) hU'.2.word hN'.2.word
  have hown' : s'.vm.findClass own = some m.cls := by rw [hvm]; exact hown
  have hins : (Cond.instantiable cls 6).before args s' = true := h _ (by simp [Bundle.ownAtoms0])
  obtain ⟨vm₁, cX, kX, hfX, hkX, -, -, X₁, st1⟩ := Y.newCold hexec (own := own) (C := cls) (index := ik) (n := 6) hown' hk' hins hini'
    (g := F0 m pc ls rest) rfl (by rw [hb]; exact d0) (Nat.le_refl _) (Nat.le_refl _)
  generalize hT1 : (T.setVm vm₁).pushCell { cls := cX, slots := kX.instanceTypes.map defaultValue, vm := .none } = T1 at X₁ st1
  have hcat : (Value.ref T.heap.size).category = 1 := rfl
  have hcellA : T1.heap[T.heap.size]? = some (freshCell cX kX) := by rw [← hT1]; exact State.heap_pushCell_size _ _
  have d3' : decode c.code (pc + 3) = .ok (.dup, 1) := by rw [hb]; exact d3
  obtain ⟨U, hsteps, hrun, hend, hW, hsame, ce, hce, hO⟩ := X₁.ctorThrow0 hexec htr (own := own) (cls := cls) (names := names) (ic := ic) hown' hcls hnames h (fun x hx => nomatch hx) hfX hkX hcellA (by rw [hhp, hT]; exact Nat.le_refl _)
    (g := { method := m, pc := pc + 4, locals := ls, stack := .ref T.heap.size :: .ref T.heap.size :: rest, locked := none }) rfl hsize rfl rfl (rest := rest) rfl
    (by rw [hb]; exact d4) (by rw [hb]; exact d7) hout hRframes (by simp only [List.map_cons, List.sum_cons, hcat]; omega) hlocks
  obtain ⟨f1, f2⟩ := vx_frame hsame
  rw [hhp] at f1 f2
  have hWs : s.WarmedH U.vm := State.WarmedH.trans hW0 hW
  have hcl : s.vm.findClass cls = some ce.cls := by
    have h9 := hO.cls
    rw [hvm] at h9
    exact h9
  have hall : s.sameButNew ({ U with vm := s.vm } : State) locs mc ms := by
    subst hA
    obtain ⟨e1, e2⟩ := hsame
    rw [State.setFrames_setFrames] at e1
    have h2 : (T.setVm s.vm).sameButNew ({ U with vm := s.vm } : State) [] (0 + 1) (0 + 6) := ⟨e1, e2⟩
    have h3 := X.same.trans h2
    rw [List.append_nil] at h3
    exact h3.mono hc hs
  have hsz : U.heap.size = H.size + 1 := by
    have u1 : U.heap.size ≤ s'.heap.size + 1 := hsame.2.2.1
    have u2 : T.heap.size < U.heap.size := (Array.getElem?_eq_some_iff.mp hce).1
    rw [hhp] at u1
    rw [hT] at u2
    omega
  refine ⟨U, ?_, .threw T.heap.size, hrun, hend, Or.inr ⟨T.heap.size, rfl, cls, ce, locs, hx U hWs hsz (fun q hq => f2 q hq (fun z hz => nomatch hz)), hce, hO.vm, hcl, hWs, hall, hf⟩⟩
  refine st1 _ ?_
  show Steps p.tables e below (T1.setTop { method := m, pc := pc + 3, locals := ls, stack := .ref T.heap.size :: rest, locked := none }) _
  jvm_step X₁.here [X₁.here.top, hexec, d3', Value.category]
  exact hsteps
end VYT
/-- words that the tables decide, but that calls don't hand on: they stand in what stays -/
def xBad : List Cond := [.castable "java/lang/IllegalStateException" "java/lang/IllegalStateException", .castable "java/lang/IllegalArgumentException" "java/lang/IllegalArgumentException", .castable "java/util/NoSuchElementException" "java/util/NoSuchElementException", .declares ⟨"java/lang/RuntimeException", "<init>", "()V"⟩, .declares ⟨"java/lang/Exception", "<init>", "()V"⟩, .declares ⟨"java/lang/Throwable", "<init>", "()V"⟩]
theorem xBad_is {w : Cond} (h : w ∈ xBad) : (∃ C T, w = .castable C T) ∨ ∃ x, w = .declares x := by
  simp only [xBad, List.mem_cons, List.not_mem_nil, or_false] at h
  rcases h with rfl | rfl | rfl | rfl | rfl | rfl
  · exact Or.inl ⟨_, _, rfl⟩
  · exact Or.inl ⟨_, _, rfl⟩
  · exact Or.inl ⟨_, _, rfl⟩
  · exact Or.inr ⟨_, rfl⟩
  · exact Or.inr ⟨_, rfl⟩
  · exact Or.inr ⟨_, rfl⟩
theorem xBad_on {w : Cond} (h : w ∈ xBad) : w.onTables = true := by
  rcases xBad_is h with ⟨C, T, rfl⟩ | ⟨x, rfl⟩ <;> rfl
theorem xBad_warm {w : Cond} {s U : State} (hm : w ∈ xBad) (hW : s.WarmedH U.vm) (h : va_Nw w s) : va_Nw w U := by
  rcases xBad_is hm with ⟨C, T, rfl⟩ | ⟨x, rfl⟩
  · exact h.warmC hW
  · exact h.warmD hW
/-- what a throw wants of what stays -/
def xThr (base : Nat) (U : State) (H : Heap) : Prop := vx_Zq Bundle.tN "UNASSIGNED_STACK" Bundle.steD (fun q => base ≤ q) U H ∧ vx_Zq Bundle.tN "SUPPRESSED_SENTINEL" Bundle.listD (fun q => base ≤ q) U H ∧ ∀ w ∈ xBad, va_Nw w U
theorem xThr.kept {base : Nat} {U : State} {H H1 : Heap} (h : xThr base U H) (hq : ∀ a : Nat, a < H.size → ¬ base ≤ a → H1[a]? = H[a]?) : xThr base U H1 := ⟨h.1.kept hq, h.2.1.kept hq, h.2.2⟩
theorem xThr.warm {base : Nat} {u U : State} {H : Heap} (hW : u.WarmedH U.vm) (h : xThr base u H) : xThr base U H := ⟨h.1.moved hW.alike, h.2.1.moved hW.alike, fun w hw => xBad_warm hw hW (h.2.2 w hw)⟩
theorem xThr.same {base : Nat} {u U : State} {H : Heap} (hv : U.vm = u.vm) (h : xThr base u H) : xThr base U H := by
  have hal : u.vm.Alike U.vm := by rw [hv]; exact Vm.Alike.refl u.vm
  exact ⟨h.1.moved hal, h.2.1.moved hal, fun w hw => (h.2.2 w hw).same (xBad_on hw) hv.symm⟩
/-- where a method of ours has thrown an object of E0: one cell of others is new, at the end -/
def xT (Dg : va_G) (cl : List vw_C) (tys : List (ClassId × FieldType)) (cA fl : Nat → Nat) (ft : Nat → Nat → Nat) (base : Nat) (adS : Nat → Nat) (Ex : State → Heap → Prop) (d : Nat) (E0 : String) (h : xBT xC d) (n : Nat) : String → State → State → Prop := fun E st t => E = E0 ∧ xWd Dg cl tys cA fl ft base adS Ex d h n t ∧ va_F (fun q => base ≤ q) st t
/-- a method that never returns -/
def xNo : Array Value → State → Outcome → State → Prop := fun _ _ _ _ => False
section WCALL
variable {l : Launch} {Dg : va_G} {cl : List vw_C} {tys : List (ClassId × FieldType)} {cA fl : Nat → Nat} {ft : Nat → Nat → Nat} {base : Nat} {adS : Nat → Nat} {GW G2 : List Cond} {Ex : State → Heap → Prop} {d : Nat}
variable {y y2 : MethodName} {cc cc2 : ByteArray} {nL nL2 pc dl dl2 mc ms index nA : Nat} {ret ret2 : Option FieldType}
variable {p : Program} {e : Env} {R : Room} {s : State} {m : MethodId} {args : Array Value} {below : List Frame} {meth : Method} {cd : Code} {H : Heap} {locs : List Loc} {lsA : Array Slot} {cells slots : Nat} {Q : State → Prop}
variable {h h1 : xBT xC d} {n n1 o : Nat} {ls : List xO} {st As : List xV} {r1 : xO} {E0 : String} {hh : List (Nat × Nat × Nat × Nat)}
/-- what a word of a contract must be -/
def xGood (GW : List Cond) : Prop := ∀ w ∈ GW, (w.onTables && w.keeps) = true ∨ ∃ ty, w = .arrayClass ty
/-- what a call wants of the words -/
def wSite (GW : List Cond) (own : String) (index : Nat) (y : MethodName) (cw : Cond) (n : Nat) : Prop :=
  Cond.methodLink own index y ∈ GW ∧ Cond.initialized y.cls ∈ GW ∧ cw ∈ GW ∧ Cond.instanceMethod y ∈ GW ∧ Cond.selects y.cls y y ∈ GW ∧ (y.cls ≠ "java/lang/invoke/MethodHandle" ∧ y.cls ≠ "java/lang/invoke/VarHandle") ∧ (parseMethodDescriptor y.desc).map (fun d => d.parameters.length) = some n
theorem w_CallB (hG : xGood GW) (hs : ∀ w ∈ G2, w ∈ GW) (X : xCtx Dg cl tys base GW Ex y cc nL ret dl p R s m args meth cd) (hS : wSite GW y.cls index y2 (Cond.code y2 cc2 nL2 ret2) nA) (hL : nL2 ≤ 45 ∧ dl2 + 1 ≤ dl) : CallW R s args y.cls y2.cls index y2 cc2 nL2 ret2 (Cond.code y2 cc2 nL2 ret2 :: G2) ({ frames := dl2 + 2, cells := mc, slots := ms, locals := 64 * dl2 + 100 }) mc ms nA := by
  obtain ⟨x1, x2, x3, x4, x5, x6, x7, x8, x9, x10, x11, x12, x13⟩ := X
  obtain ⟨s1, s2, s3, s4, s5, s6, s7⟩ := hS
  refine ⟨⟨rfl, rfl, by show dl2 + 2 + 1 ≤ _; omega, by show 8 + (nL2 + 11) + (64 * dl2 + 100) ≤ _; omega, fun w hw a' U hW => ?_, List.mem_cons_self, x8 _ s3, x8 _ s2, s6, fun sig h => ?_, x8 _ s1⟩, x8 _ s4, x8 _ s5⟩
  · have hw2 : w ∈ GW := by
      rcases List.mem_cons.mp hw with z | z
      · rw [z]; exact s3
      · exact hs w z
    exact word_at hW (hG w hw2) (x8 w hw2)
  · rw [h] at s7
    exact (Option.some.inj s7).symm
theorem w_CallVW (hG : xGood GW) (hs : ∀ w ∈ G2, w ∈ GW) (X : xCtx Dg cl tys base GW Ex y cc nL ret dl p R s m args meth cd) (hS : wSite GW y.cls index y2 (Cond.codeWith y2 cc2 nL2 ret2 hh) nA) (hL : nL2 ≤ 45 ∧ dl2 + 1 ≤ dl) : vx_CVW R s args y.cls y2.cls index y2 cc2 nL2 ret2 hh (Cond.codeWith y2 cc2 nL2 ret2 hh :: G2) ({ frames := dl2 + 2, cells := mc, slots := ms, locals := 64 * dl2 + 100 }) mc ms nA := by
  obtain ⟨x1, x2, x3, x4, x5, x6, x7, x8, x9, x10, x11, x12, x13⟩ := X
  obtain ⟨s1, s2, s3, s4, s5, s6, s7⟩ := hS
  refine ⟨⟨rfl, rfl, by show dl2 + 2 + 1 ≤ _; omega, by show 8 + (nL2 + 11) + (64 * dl2 + 100) ≤ _; omega, fun w hw a' U hW => ?_, List.mem_cons_self⟩, x8 _ s3, x8 _ s2, s6, fun sig h => ?_, x8 _ s1, x8 _ s4, x8 _ s5⟩
  · have hw2 : w ∈ GW := by
      rcases List.mem_cons.mp hw with z | z
      · rw [z]; exact s3
      · exact hs w z
    exact word_at hW (hG w hw2) (x8 w hw2)
  · rw [h] at s7
    exact (Option.some.inj s7).symm
/-- a call that returns -/
theorem w_callv (hEk : ∀ (U : State) (H H1 : Heap), Ex U H → (∀ a, a < H.size → ¬ base ≤ a → H1[a]? = H[a]?) → Ex U H1) (hEm : ∀ (u U : State) (H : Heap), u.WarmedH U.vm → Ex u H → Ex U H) (hEv : ∀ (u U : State) (H : Heap), U.vm = u.vm → Ex u H → Ex U H) (hG : xGood GW) (hs : ∀ w ∈ G2, w ∈ GW)
    (X : xCtx Dg cl tys base GW Ex y cc nL ret dl p R s m args meth cd) (N : xNow Dg cl cA fl ft base adS d h n nL ls s H locs lsA)
    (hM : Met l y2 (Cond.code y2 cc2 nL2 ret2 :: G2) ({ frames := dl2 + 2, cells := mc, slots := ms, locals := 64 * dl2 + 100 }) (va_Pc ((.inr (.inr (o + 1)) :: As).map (xval (xad base adS))) (fun U => xWd Dg cl tys cA fl ft base adS Ex d h n U)) (xQ Dg cl tys cA fl ft base adS Ex d r1 h1 n1) mc ms (fun q => base ≤ q))
    (hS : wSite GW y.cls index y2 (Cond.code y2 cc2 nL2 ret2) nA) (hL : nL2 ≤ 45 ∧ dl2 + 1 ≤ dl) {ci N0 : Nat} {T : u_T} (hcl : cl[ci]? = some (y2.cls, T, N0)) (ho : o < n) (hk : (xget d h o).1 = ci + 8) (hA : As.length = nA) (hn1 : n1 < 2 ^ d) (hsm : ((st.map (xval (xad base adS))).map fun v => v.category).sum ≤ 8) (hd : decode cc pc = .ok (.invokevirtual index, 3)) (hf : cells + mc ≤ R.cells ∧ slots + ms ≤ R.slots)
    (kk : ∀ (H1 : Heap) (locs1 : List Loc), xNow Dg cl cA fl ft base adS d h1 n1 nL ls s H1 locs1 lsA → W p l e R s m args below meth cd H1 locs1 (cells + mc) (slots + ms) Q (F0 m (pc + 3) lsA (List.map (xval (xad base adS)) (r1.toList ++ st)))) :
    W p l e R s m args below meth cd H locs cells slots Q (F0 m pc lsA (List.map (xval (xad base adS)) (As.reverse ++ .inr (.inr (o + 1)) :: st))) := by
  have hrec := va_recv (q0 := o) (a := xad base adS o) X.2.2.2.2.2.2.2.2.1 N.2.2.1 hcl (by rw [xws_get ho, xcell_obj hk])
  have hR := va_runV (As := As.map (xval (xad base adS))) (b := xad base adS o) (C := y2.cls) (rest := st.map (xval (xad base adS))) (g := F0 m pc lsA (List.map (xval (xad base adS)) (As.reverse ++ .inr (.inr (o + 1)) :: st))) (cc := cc) (nL := nL) (cells := cells) (slots := slots) (H := H) (locs := locs) (below := below) (meth := meth) (c := cd) (p := p) (e := e) (m := m)
    ⟨X.1, X.2.1, X.2.2.2.1, X.2.2.2.2.2.1, X.2.2.2.2.2.2.2.1⟩ hM (w_CallB hG hs X hS hL) ⟨xWd_blind hEv, hrec, fun U hU hW => ⟨rfl, xWd_of hEk hEm X N U hU hW⟩⟩ rfl (by rw [List.length_map]; exact hA) N.2.2.2.2.2.1 (by show List.map (xval (xad base adS)) (As.reverse ++ .inr (.inr (o + 1)) :: st) = _; rw [List.map_append, List.map_reverse]; rfl) (lv_room hsm) hd hf
  refine x_after hR N hn1 fun H1 locs1 N1 => ?_
  have hw := kk H1 locs1 N1
  rw [xmap_app] at hw
  exact hw
/-- a call that returns, of a method with handlers -/
theorem w_callvw (hEk : ∀ (U : State) (H H1 : Heap), Ex U H → (∀ a, a < H.size → ¬ base ≤ a → H1[a]? = H[a]?) → Ex U H1) (hEm : ∀ (u U : State) (H : Heap), u.WarmedH U.vm → Ex u H → Ex U H) (hEv : ∀ (u U : State) (H : Heap), U.vm = u.vm → Ex u H → Ex U H) (hG : xGood GW) (hs : ∀ w ∈ G2, w ∈ GW)
    (X : xCtx Dg cl tys base GW Ex y cc nL ret dl p R s m args meth cd) (N : xNow Dg cl cA fl ft base adS d h n nL ls s H locs lsA)
    (hM : Met l y2 (Cond.codeWith y2 cc2 nL2 ret2 hh :: G2) ({ frames := dl2 + 2, cells := mc, slots := ms, locals := 64 * dl2 + 100 }) (va_Pc ((.inr (.inr (o + 1)) :: As).map (xval (xad base adS))) (fun U => xWd Dg cl tys cA fl ft base adS Ex d h n U)) (xQ Dg cl tys cA fl ft base adS Ex d r1 h1 n1) mc ms (fun q => base ≤ q))
    (hS : wSite GW y.cls index y2 (Cond.codeWith y2 cc2 nL2 ret2 hh) nA) (hL : nL2 ≤ 45 ∧ dl2 + 1 ≤ dl) {ci N0 : Nat} {T : u_T} (hcl : cl[ci]? = some (y2.cls, T, N0)) (ho : o < n) (hk : (xget d h o).1 = ci + 8) (hA : As.length = nA) (hn1 : n1 < 2 ^ d) (hsm : ((st.map (xval (xad base adS))).map fun v => v.category).sum ≤ 8) (hd : decode cc pc = .ok (.invokevirtual index, 3)) (hf : cells + mc ≤ R.cells ∧ slots + ms ≤ R.slots)
    (kk : ∀ (H1 : Heap) (locs1 : List Loc), xNow Dg cl cA fl ft base adS d h1 n1 nL ls s H1 locs1 lsA → W p l e R s m args below meth cd H1 locs1 (cells + mc) (slots + ms) Q (F0 m (pc + 3) lsA (List.map (xval (xad base adS)) (r1.toList ++ st)))) :
    W p l e R s m args below meth cd H locs cells slots Q (F0 m pc lsA (List.map (xval (xad base adS)) (As.reverse ++ .inr (.inr (o + 1)) :: st))) := by
  have hrec := va_recv (q0 := o) (a := xad base adS o) X.2.2.2.2.2.2.2.2.1 N.2.2.1 hcl (by rw [xws_get ho, xcell_obj hk])
  have hR := vx_runVW (hh := hh) (As := As.map (xval (xad base adS))) (b := xad base adS o) (C := y2.cls) (rest := st.map (xval (xad base adS))) (g := F0 m pc lsA (List.map (xval (xad base adS)) (As.reverse ++ .inr (.inr (o + 1)) :: st))) (cc := cc) (nL := nL) (cells := cells) (slots := slots) (H := H) (locs := locs) (below := below) (meth := meth) (c := cd) (p := p) (e := e) (m := m)
    ⟨X.1, X.2.1, X.2.2.2.1, X.2.2.2.2.2.1, X.2.2.2.2.2.2.2.1⟩ hM (w_CallVW hG hs X hS hL) ⟨xWd_blind hEv, hrec, fun U hU hW => ⟨rfl, xWd_of hEk hEm X N U hU hW⟩⟩ rfl (by rw [List.length_map]; exact hA) N.2.2.2.2.2.1 (by show List.map (xval (xad base adS)) (As.reverse ++ .inr (.inr (o + 1)) :: st) = _; rw [List.map_append, List.map_reverse]; rfl) (lv_room hsm) hd hf
  refine x_after hR N hn1 fun H1 locs1 N1 => ?_
  have hw := kk H1 locs1 N1
  rw [xmap_app] at hw
  exact hw
/-- behind a call that threw: the heap as it is then -/
theorem x_afterX {mc0 ms0 : Nat} {st0 rest : List Value} {Qa : State → Outcome → State → Prop} (hR : vx_Run p l e R s m args below meth cd H locs cells slots mc0 ms0 (F0 m pc lsA st0) rest Qa (xT Dg cl tys cA fl ft base adS Ex d E0 h1 n1) (fun q => base ≤ q)) (hQ : ∀ st₀ v t, ¬ Qa st₀ (.returned v) t) (N : xNow Dg cl cA fl ft base adS d h n nL ls s H locs lsA) (hn1 : n1 < 2 ^ d)
    (kx : ∀ (H1 : Heap) (locs1 : List Loc) (q : Addr) (ce : Cell), xNow Dg cl cA fl ft base adS d h1 n1 nL ls s H1 locs1 lsA → H1[q]? = some ce → ce.vm = .none → s.vm.findClass E0 = some ce.cls → vx_W p l e R s m args below meth cd H1 locs1 (cells + mc0) (slots + ms0) Q (F0 m pc lsA rest) q) :
    W p l e R s m args below meth cd H locs cells slots Q (F0 m pc lsA st0) := by
  intro T hT X
  rcases hR T hT X with ⟨v, st₀, t, T', L, h0, X', hL, e1, e2, hv, st⟩ | ⟨q, st₀, t, T', L, E, ce, h0, X', hL, e1, e2, ⟨hE, ⟨z, P, K1, E1⟩, hF⟩, hce, hcv, hcl, st⟩
  · exact absurd hv (hQ _ _ _)
  · subst hE
    obtain ⟨n1', n2', n3', n4', n5'⟩ := N
    obtain ⟨f1, f2⟩ := hF
    rw [h0] at f1 f2
    obtain ⟨t2, a1, b1⟩ := kx T'.heap (locs ++ L) q ce ⟨by rw [e1]; exact z, hn1, by rw [e1]; exact P, ⟨Nat.le_trans n4'.1 (by rw [e1]; exact f1), fun q q1 q2 => by
        rw [e1, f2 q (Nat.lt_of_lt_of_le q1 n4'.1) q2]; exact n4'.2.1 q q1 q2, fun q hq => by
        rcases List.mem_append.mp hq with z | z
        · exact n4'.2.2 q z
        · exact hL q z⟩, n5'⟩ (by rw [e1]; exact hce) hcv hcl T' rfl X'
    exact ⟨t2, st.trans a1, b1⟩
/-- the run of a method that throws -/
theorem w_runx (hEk : ∀ (U : State) (H H1 : Heap), Ex U H → (∀ a, a < H.size → ¬ base ≤ a → H1[a]? = H[a]?) → Ex U H1) (hEm : ∀ (u U : State) (H : Heap), u.WarmedH U.vm → Ex u H → Ex U H) (hEv : ∀ (u U : State) (H : Heap), U.vm = u.vm → Ex u H → Ex U H) (hG : xGood GW)
    (X : xCtx Dg cl tys base GW Ex y cc nL ret dl p R s m args meth cd) (N : xNow Dg cl cA fl ft base adS d h n nL ls s H locs lsA)
    (hM : vx_Met l y2 (Cond.code y2 cc2 nL2 ret2 :: GW) ({ frames := dl2 + 2, cells := mc, slots := ms, locals := 64 * dl2 + 100 }) (va_Pc ((.inr (.inr (o + 1)) :: As).map (xval (xad base adS))) (fun U => xWd Dg cl tys cA fl ft base adS Ex d h n U)) xNo (xT Dg cl tys cA fl ft base adS Ex d E0 h1 n1) mc ms (fun q => base ≤ q))
    (hS : wSite GW y.cls index y2 (Cond.code y2 cc2 nL2 ret2) nA) (hL : nL2 ≤ 45 ∧ dl2 + 1 ≤ dl) {ci N0 : Nat} {T : u_T} (hcl : cl[ci]? = some (y2.cls, T, N0)) (ho : o < n) (hk : (xget d h o).1 = ci + 8) (hA : As.length = nA) (hsm : ((st.map (xval (xad base adS))).map fun v => v.category).sum ≤ 8) (hd : decode cc pc = .ok (.invokevirtual index, 3)) (hf : cells + mc ≤ R.cells ∧ slots + ms ≤ R.slots) :
    vx_Run p l e R s m args below meth cd H locs cells slots mc ms (F0 m pc lsA (List.map (xval (xad base adS)) (As.reverse ++ .inr (.inr (o + 1)) :: st))) (st.map (xval (xad base adS))) (xNo ((.inr (.inr (o + 1)) :: As).map (xval (xad base adS))).toArray) (xT Dg cl tys cA fl ft base adS Ex d E0 h1 n1) (fun q => base ≤ q) := by
  have hrec := va_recv (q0 := o) (a := xad base adS o) X.2.2.2.2.2.2.2.2.1 N.2.2.1 hcl (by rw [xws_get ho, xcell_obj hk])
  exact vx_runV (As := As.map (xval (xad base adS))) (b := xad base adS o) (C := y2.cls) (rest := st.map (xval (xad base adS))) (g := F0 m pc lsA (List.map (xval (xad base adS)) (As.reverse ++ .inr (.inr (o + 1)) :: st))) (cc := cc) (nL := nL) (cells := cells) (slots := slots) (H := H) (locs := locs) (below := below) (meth := meth) (c := cd) (p := p) (e := e) (m := m)
    ⟨X.1, X.2.1, X.2.2.2.1, X.2.2.2.2.2.1, X.2.2.2.2.2.2.2.1⟩ hM (w_CallB hG (fun w hw => hw) X hS hL) ⟨xWd_blind hEv, hrec, fun U hU hW => ⟨rfl, xWd_of hEk hEm X N U hU hW⟩⟩ rfl (by rw [List.length_map]; exact hA) N.2.2.2.2.2.1 (by show List.map (xval (xad base adS)) (As.reverse ++ .inr (.inr (o + 1)) :: st) = _; rw [List.map_append, List.map_reverse]; rfl) (lv_room hsm) hd hf
/-- what holds where a method of ours is left by a throw -/
theorem xT_of (hEk : ∀ (U : State) (H H1 : Heap), Ex U H → (∀ a, a < H.size → ¬ base ≤ a → H1[a]? = H[a]?) → Ex U H1) (hEm : ∀ (u U : State) (H : Heap), u.WarmedH U.vm → Ex u H → Ex U H)
    (X : xCtx Dg cl tys base GW Ex y cc nL ret dl p R s m args meth cd) (N : xNow Dg cl cA fl ft base adS d h n nL ls s H locs lsA) (t : State) (ht : t.heap = H) (hW : s.WarmedH t.vm) : xT Dg cl tys cA fl ft base adS Ex d E0 h n E0 s t := by
  obtain ⟨n1, n2, n3, n4, n5⟩ := N
  obtain ⟨x1, x2, x3, x4, x5, x6, x7, x8, x9, x10, x11, x12, x13⟩ := X
  refine ⟨rfl, ⟨by rw [ht]; exact n1, by rw [ht]; exact n3, va_K.moved hW.alike x9, ?_⟩, n4.F ht⟩
  rw [ht]
  exact hEm s t H hW (hEk s s.heap H x10 n4.2.1)
/-- a call that throws, in a method without handlers -/
theorem w_callx (hEk : ∀ (U : State) (H H1 : Heap), Ex U H → (∀ a, a < H.size → ¬ base ≤ a → H1[a]? = H[a]?) → Ex U H1) (hEm : ∀ (u U : State) (H : Heap), u.WarmedH U.vm → Ex u H → Ex U H) (hEv : ∀ (u U : State) (H : Heap), U.vm = u.vm → Ex u H → Ex U H) (hG : xGood GW)
    (X : xCtx Dg cl tys base GW Ex y cc nL ret dl p R s m args meth cd) (N : xNow Dg cl cA fl ft base adS d h n nL ls s H locs lsA) (hcat : ∀ x ∈ cd.exceptionTable.toList, covers x pc = false)
    (hM : vx_Met l y2 (Cond.code y2 cc2 nL2 ret2 :: GW) ({ frames := dl2 + 2, cells := mc, slots := ms, locals := 64 * dl2 + 100 }) (va_Pc ((.inr (.inr (o + 1)) :: As).map (xval (xad base adS))) (fun U => xWd Dg cl tys cA fl ft base adS Ex d h n U)) xNo (xT Dg cl tys cA fl ft base adS Ex d E0 h1 n1) mc ms (fun q => base ≤ q))
    (hS : wSite GW y.cls index y2 (Cond.code y2 cc2 nL2 ret2) nA) (hL : nL2 ≤ 45 ∧ dl2 + 1 ≤ dl) {ci N0 : Nat} {T : u_T} (hcl : cl[ci]? = some (y2.cls, T, N0)) (ho : o < n) (hk : (xget d h o).1 = ci + 8) (hA : As.length = nA) (hn1 : n1 < 2 ^ d) (hsm : ((st.map (xval (xad base adS))).map fun v => v.category).sum ≤ 8) (hd : decode cc pc = .ok (.invokevirtual index, 3)) (hf : cells + mc ≤ R.cells ∧ slots + ms ≤ R.slots) {Qc : Array Value → State → Outcome → State → Prop} {mcT msT : Nat} (hm : cells + mc ≤ mcT ∧ slots + ms ≤ msT) :
    W p l e R s m args below meth cd H locs cells slots (vx_MQ below Qc (xT Dg cl tys cA fl ft base adS Ex d E0 h1 n1) args s mcT msT (fun q => base ≤ q)) (F0 m pc lsA (List.map (xval (xad base adS)) (As.reverse ++ .inr (.inr (o + 1)) :: st))) :=
  x_afterX (w_runx hEk hEm hEv hG X N hM hS hL hcl ho hk hA hsm hd hf) (fun _ _ _ z => z) N hn1 fun H1 locs1 q ce N1 c1 c2 c3 => vy_out hcat X.2.2.2.2.1 c1 c2 c3 (fun t ht hW => xT_of hEk hEm X N1 t ht hW) N1.2.2.2.1.2.2 hm.1 hm.2
/-- a call that throws, caught by the method's one handler -/
theorem w_catchx (hEk : ∀ (U : State) (H H1 : Heap), Ex U H → (∀ a, a < H.size → ¬ base ≤ a → H1[a]? = H[a]?) → Ex U H1) (hEm : ∀ (u U : State) (H : Heap), u.WarmedH U.vm → Ex u H → Ex U H) (hEv : ∀ (u U : State) (H : Heap), U.vm = u.vm → Ex u H → Ex U H) (hG : xGood GW)
    (X : xCtx Dg cl tys base GW Ex y cc nL ret dl p R s m args meth cd) (N : xNow Dg cl cA fl ft base adS d h n nL ls s H locs lsA) {x : ExceptionTableEntry} (hsplit : cd.exceptionTable.toList = [] ++ x :: []) (hxc : covers x pc = true) (h0 : x.catchType ≠ 0) (hlink : Cond.classLink y.cls x.catchType E0 ∈ GW) (hTh : ∀ s : State, Ex s s.heap → xThr base s s.heap) (hcast : Cond.castable E0 E0 ∈ xBad)
    (hM : vx_Met l y2 (Cond.code y2 cc2 nL2 ret2 :: GW) ({ frames := dl2 + 2, cells := mc, slots := ms, locals := 64 * dl2 + 100 }) (va_Pc ((.inr (.inr (o + 1)) :: As).map (xval (xad base adS))) (fun U => xWd Dg cl tys cA fl ft base adS Ex d h n U)) xNo (xT Dg cl tys cA fl ft base adS Ex d E0 h1 n1) mc ms (fun q => base ≤ q))
    (hS : wSite GW y.cls index y2 (Cond.code y2 cc2 nL2 ret2) nA) (hL : nL2 ≤ 45 ∧ dl2 + 1 ≤ dl) {ci N0 : Nat} {T : u_T} (hcl : cl[ci]? = some (y2.cls, T, N0)) (ho : o < n) (hk : (xget d h o).1 = ci + 8) (hA : As.length = nA) (hn1 : n1 < 2 ^ d) (hsm : ((st.map (xval (xad base adS))).map fun v => v.category).sum ≤ 8) (hd : decode cc pc = .ok (.invokevirtual index, 3)) (hf : cells + mc ≤ R.cells ∧ slots + ms ≤ R.slots)
    (kk : ∀ (H1 : Heap) (locs1 : List Loc) (q : Addr), xNow Dg cl cA fl ft base adS d h1 n1 nL ls s H1 locs1 lsA → W p l e R s m args below meth cd H1 locs1 (cells + mc) (slots + ms) Q (F0 m x.handlerPc lsA [.ref q])) :
    W p l e R s m args below meth cd H locs cells slots Q (F0 m pc lsA (List.map (xval (xad base adS)) (As.reverse ++ .inr (.inr (o + 1)) :: st))) :=
  x_afterX (w_runx hEk hEm hEv hG X N hM hS hL hcl ho hk hA hsm hd hf) (fun _ _ _ z => z) N hn1 fun H1 locs1 q ce N1 c1 c2 c3 => vx_catch X.2.2.2.2.2.1 [] x [] hsplit (fun z hz => nomatch hz) hxc h0 (X.2.2.2.2.2.2.2.1 _ hlink) (((hTh s X.2.2.2.2.2.2.2.2.2.1).2.2 _ hcast).use (xBad_on hcast)) c1 c2 c3 (kk H1 locs1 q N1)
/-- the end of a method with an int -/
theorem w_iret {a : Nat} (hEk : ∀ (U : State) (H H1 : Heap), Ex U H → (∀ a, a < H.size → ¬ base ≤ a → H1[a]? = H[a]?) → Ex U H1) (hEm : ∀ (u U : State) (H : Heap), u.WarmedH U.vm → Ex u H → Ex U H) (X : xCtx Dg cl tys base GW Ex y cc nL ret dl p R s m args meth cd) (N : xNow Dg cl cA fl ft base adS d h n nL ls s H locs lsA) (hr : ret = some .int) (hd : decode cc pc = .ok (.ireturn, 1)) :
    W p l e R s m args below meth cd H locs cells slots (MQ below (xQ Dg cl tys cA fl ft base adS Ex d (some (.inl a)) h n) args s cells slots (fun q => base ≤ q)) (F0 m pc lsA (List.map (xval (xad base adS)) [.inl a])) :=
  W.iret (v := nI a) X.1 X.2.1 (X.2.2.1.trans hr) (fun t ht hW => xQ.of (r := some (.inl a)) (o := some (.int (nI a))) rfl hEk hEm X N t ht hW) N.2.2.2.1.2.2 hd X.2.2.2.2.1
/-- a contract out of a walk: a method that returns, without handlers -/
theorem wMet {vs : List xV} {r : xO} {h' : xBT xC d} {n' : Nat} (hy : plainName y.cls = true) (hv : ∀ v ∈ vs, xlong v = false) (hn : vs.length ≤ nL) (hc : n < 2 ^ d)
    (w : ∀ (p : Program) (e : Env) (R : Room) (s : State) (m : MethodId) (args : Array Value) (below : List Frame) (meth : Method) (cd : Code) (H : Heap) (lsA : Array Slot), xCtx Dg cl tys base GW Ex y cc nL ret dl p R s m args meth cd → xNow Dg cl cA fl ft base adS d h n nL (vs.map some ++ List.replicate (nL - vs.length) none) s H [] lsA → mc ≤ R.cells → ms ≤ R.slots → W p l e R s m args below meth cd H [] 0 0 (MQ below (xQ Dg cl tys cA fl ft base adS Ex d r h' n') args s mc ms (fun q => base ≤ q)) (F0 m 0 lsA [])) :
    Met l y (Cond.code y cc nL ret :: GW) ({ frames := dl + 2, cells := mc, slots := ms, locals := 64 * dl + 100 }) (va_Pc (vs.map (xval (xad base adS))) (fun U => xWd Dg cl tys cA fl ft base adS Ex d h n U)) (xQ Dg cl tys cA fl ft base adS Ex d r h' n') mc ms (fun q => base ≤ q) := by
  refine Met.ofW (cc := cc) (maxL := nL) (ret := ret) hy rfl ?_
  intro p e s m args below meth cd s₁ B hml hv0
  obtain ⟨rfl, hsz, hP, hK, hE⟩ := hv0
  have hts := atoms_spec (ws := Cond.code y cc nL ret :: GW) B.pre
  rw [lg_entry_eq]
  exact w p e _ s m _ below meth cd s.heap _ ⟨B.exec, B.bytes, B.returns, hml, B.notSynchronized, findClass_of_methodNamed B.named, (name_of_methodNamed B.named B.method).1, fun w hw => hts w (List.mem_cons_of_mem _ hw), hK, hE, by rw [hsz]; omega, Nat.le_refl _, Nat.le_refl _⟩ ⟨hsz, hc, hP, va_S.rf, xL_entry hv hn⟩ (Nat.le_refl _) (Nat.le_refl _)
/-- .. with handlers -/
theorem wMetH {vs : List xV} {r : xO} {h' : xBT xC d} {n' : Nat} (hy : plainName y.cls = true) (hv : ∀ v ∈ vs, xlong v = false) (hn : vs.length ≤ nL) (hc : n < 2 ^ d)
    (w : ∀ (p : Program) (e : Env) (R : Room) (s : State) (m : MethodId) (args : Array Value) (below : List Frame) (meth : Method) (cd : Code) (H : Heap) (lsA : Array Slot), cd.exceptionTable.toList = tableOf hh → xCtx Dg cl tys base GW Ex y cc nL ret dl p R s m args meth cd → xNow Dg cl cA fl ft base adS d h n nL (vs.map some ++ List.replicate (nL - vs.length) none) s H [] lsA → mc ≤ R.cells → ms ≤ R.slots → W p l e R s m args below meth cd H [] 0 0 (MQ below (xQ Dg cl tys cA fl ft base adS Ex d r h' n') args s mc ms (fun q => base ≤ q)) (F0 m 0 lsA [])) :
    Met l y (Cond.codeWith y cc nL ret hh :: GW) ({ frames := dl + 2, cells := mc, slots := ms, locals := 64 * dl + 100 }) (va_Pc (vs.map (xval (xad base adS))) (fun U => xWd Dg cl tys cA fl ft base adS Ex d h n U)) (xQ Dg cl tys cA fl ft base adS Ex d r h' n') mc ms (fun q => base ≤ q) := by
  refine x_ofWH (cc := cc) (maxL := nL) (ret := ret) (hh := hh) hy rfl ?_
  intro p e s m args below meth cd s₁ B hml hv0
  obtain ⟨rfl, hsz, hP, hK, hE⟩ := hv0
  have hts := atoms_spec (ws := Cond.codeWith y cc nL ret hh :: GW) B.pre
  rw [lg_entry_eq]
  exact w p e _ s m _ below meth cd s.heap _ (vx_table (x := y) B (hts _ List.mem_cons_self)) ⟨B.exec, B.bytes, B.returns, hml, B.notSynchronized, findClass_of_methodNamed B.named, (name_of_methodNamed B.named B.method).1, fun w hw => hts w (List.mem_cons_of_mem _ hw), hK, hE, by rw [hsz]; omega, Nat.le_refl _, Nat.le_refl _⟩ ⟨hsz, hc, hP, va_S.rf, xL_entry hv hn⟩ (Nat.le_refl _) (Nat.le_refl _)
/-- .. that throws -/
theorem wMetX {vs : List xV} {h' : xBT xC d} {n' : Nat} (hy : plainName y.cls = true) (hv : ∀ v ∈ vs, xlong v = false) (hn : vs.length ≤ nL) (hc : n < 2 ^ d)
    (w : ∀ (p : Program) (e : Env) (R : Room) (s : State) (m : MethodId) (args : Array Value) (below : List Frame) (meth : Method) (cd : Code) (H : Heap) (lsA : Array Slot), (∀ x ∈ cd.exceptionTable.toList, False) → xCtx Dg cl tys base GW Ex y cc nL ret dl p R s m args meth cd → xNow Dg cl cA fl ft base adS d h n nL (vs.map some ++ List.replicate (nL - vs.length) none) s H [] lsA → mc ≤ R.cells → ms ≤ R.slots → W p l e R s m args below meth cd H [] 0 0 (vx_MQ below xNo (xT Dg cl tys cA fl ft base adS Ex d E0 h' n') args s mc ms (fun q => base ≤ q)) (F0 m 0 lsA [])) :
    vx_Met l y (Cond.code y cc nL ret :: GW) ({ frames := dl + 2, cells := mc, slots := ms, locals := 64 * dl + 100 }) (va_Pc (vs.map (xval (xad base adS))) (fun U => xWd Dg cl tys cA fl ft base adS Ex d h n U)) xNo (xT Dg cl tys cA fl ft base adS Ex d E0 h' n') mc ms (fun q => base ≤ q) := by
  refine vx_ofW (cc := cc) (maxL := nL) (ret := ret) hy rfl ?_
  intro p e s m args below meth cd s₁ B hml ht hv0
  obtain ⟨rfl, hsz, hP, hK, hE⟩ := hv0
  have hts := atoms_spec (ws := Cond.code y cc nL ret :: GW) B.pre
  rw [lg_entry_eq]
  exact w p e _ s m _ below meth cd s.heap _ ht ⟨B.exec, B.bytes, B.returns, hml, B.notSynchronized, findClass_of_methodNamed B.named, (name_of_methodNamed B.named B.method).1, fun w hw => hts w (List.mem_cons_of_mem _ hw), hK, hE, by rw [hsz]; omega, Nat.le_refl _, Nat.le_refl _⟩ ⟨hsz, hc, hP, va_S.rf, xL_entry hv hn⟩ (Nat.le_refl _) (Nat.le_refl _)
end WCALL
section WTHROW
variable {l : Launch} {Dg : va_G} {cl : List vw_C} {tys : List (ClassId × FieldType)} {cA fl : Nat → Nat} {ft : Nat → Nat → Nat} {base : Nat} {adS : Nat → Nat} {GW : List Cond} {Ex : State → Heap → Prop} {d : Nat}
variable {y : MethodName} {cc : ByteArray} {nL pc dl mc ms : Nat} {ret : Option FieldType}
variable {p : Program} {e : Env} {R : Room} {s : State} {m : MethodId} {args : Array Value} {below : List Frame} {meth : Method} {cd : Code} {H : Heap} {locs : List Loc} {lsA : Array Slot} {cells slots : Nat}
variable {h h' : xBT xC d} {n : Nat} {ls : List xO} {st : List xV} {E0 : String}
theorem w_throw {names : List String} {ik ic : Nat} (hfl : l.stackTraces = false) (hEk : ∀ (U : State) (H H1 : Heap), Ex U H → (∀ a, a < H.size → ¬ base ≤ a → H1[a]? = H[a]?) → Ex U H1) (hEm : ∀ (u U : State) (H : Heap), u.WarmedH U.vm → Ex u H → Ex U H) (hTh : ∀ s : State, Ex s s.heap → xThr base s s.heap)
    (X : xCtx Dg cl tys base GW Ex y cc nL ret dl p R s m args meth cd) (N : xNow Dg cl cA fl ft base adS d h n nL ls s H locs lsA) (hcls : Bundle.fit E0 = true) (hnames : ∀ n ∈ names, Bundle.fit n = true)
    (hw : ∀ w ∈ Cond.classLink y.cls ik E0 :: Cond.initialized E0 :: vx_at0 y.cls ic E0 names, w ∈ GW ∨ w ∈ xBad) (hgood : ∀ w ∈ Cond.classLink y.cls ik E0 :: Cond.initialized E0 :: vx_at0 y.cls ic E0 names, vx_ot w = true)
    (d0 : decode cc pc = .ok (.new ik, 3)) (d3 : decode cc (pc + 3) = .ok (.dup, 1)) (d4 : decode cc (pc + 4) = .ok (.invokespecial ic, 3)) (d7 : decode cc (pc + 7) = .ok (.athrow, 1)) (hout : ∀ x ∈ cd.exceptionTable.toList, covers x (pc + 7) = false)
    (hfr : names.length = 2 ∧ 4 ≤ dl) (hsm : ((st.map (xval (xad base adS))).map fun v => v.category).sum ≤ 8) (hRc : cells + 1 ≤ R.cells ∧ slots + 6 ≤ R.slots) (hm : cells + 1 ≤ mc ∧ slots + 6 ≤ ms) (hg0 : xgap h = 0) (hh : xset d h (2 ^ d - 1) (0, (1, 0)) = h') (hn : n < 2 ^ d) {Qc : Array Value → State → Outcome → State → Prop} :
    W p l e R s m args below meth cd H locs cells slots (vx_MQ below Qc (xT Dg cl tys cA fl ft base adS Ex d E0 h' n) args s mc ms (fun q => base ≤ q)) (F0 m pc lsA (List.map (xval (xad base adS)) st)) := by
  subst hh
  obtain ⟨n1, n2, n3, n4, n5⟩ := N
  obtain ⟨x1, x2, x3, x4, x5, x6, x7, x8, x9, x10, x11, x12, x13⟩ := X
  have hth := hTh s x10
  have hall : ∀ w ∈ Cond.classLink y.cls ik E0 :: Cond.initialized E0 :: vx_at0 y.cls ic E0 names, w.before args s = true := fun w hw' => (hw w hw').elim (x8 w) (fun z => (hth.2.2 w z).use (xBad_on z))
  refine vy_throw0 (A := fun q => base ≤ q) (names := names) x1 x2 hfl x6 hcls hnames (hall _ List.mem_cons_self) (hall _ (List.mem_cons_of_mem _ List.mem_cons_self)) (fun w hw' => hall _ (List.mem_cons_of_mem _ (List.mem_cons_of_mem _ hw'))) hgood hth.1 hth.2.1 n4 (by rw [n5.2.1, x4]) d0 d3 d4 d7 hout (by rw [hfr.1]; omega) (by rw [hfr.1]; omega) hRc.1 hRc.2 x5 ?_ n4.2.2 hm.1 hm.2
  intro t hW hsz hkeep
  have hp := Nat.pow_pos (n := d) (show 0 < 2 by decide)
  have hgap : xgap (xset d h (2 ^ d - 1) (0, (1, 0))) = 1 := by
    show Prod.fst (Prod.snd (xget d (xset d h (2 ^ d - 1) (0, (1, 0))) (2 ^ d - 1))) = 1
    rw [xget_set d h (2 ^ d - 1) (2 ^ d - 1) _ (by omega) (by omega), if_pos rfl]
  refine ⟨rfl, ⟨by rw [hsz, hgap, n1, hg0], ?_, va_K.moved hW.alike x9, ?_⟩, ?_⟩
  · have e1 : xws (xad base adS) cA fl ft (xget d (xset d h (2 ^ d - 1) (0, (1, 0)))) n = xws (xad base adS) cA fl ft (xget d h) n := by
      apply List.map_congr_left
      intro j hj
      have hj := List.mem_range.mp hj
      rw [xget_set d h (2 ^ d - 1) j _ (by omega) (by omega), if_neg (by omega)]
    rw [e1]
    exact n3.kept (fun k q hk => hkeep q.1 (vx_lt n3 hk))
  · exact hEm s t t.heap hW (hEk s H t.heap (hEk s s.heap H x10 n4.2.1) (fun a ha _ => hkeep a ha))
  · exact ⟨by rw [hsz]; exact Nat.le_trans n4.1 (Nat.le_succ _), fun q hq hA => by rw [hkeep q (Nat.lt_of_lt_of_le hq n4.1)]; exact n4.2.1 q hq hA⟩
end WTHROW

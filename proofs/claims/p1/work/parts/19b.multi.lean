/-! A row of rows of ints, made at once. -/
/-- n new rows of m ints each, from place j on -/
noncomputable def xmk {d : Nat} {R : Type} (m n : Nat) : Nat → xBT xC d → (xBT xC d → Option R) → Option R := Nat.rec (motive := fun _ => Nat → xBT xC d → (xBT xC d → Option R) → Option R) (fun _ h k => k h) (fun _ ih j h k => xst (Nat.mul j 1048576) (fun z => xsetK d h j (0, (m, z)) (fun h => xst (Nat.succ j) (fun j => ih j h k)))) n
/-- the places of n objects from j on, as digits -/
noncomputable def xpl (n : Nat) : Nat → Nat := Nat.rec (motive := fun _ => Nat → Nat) (fun _ => 0) (fun _ ih j => Nat.add (Nat.succ j) (Nat.shiftLeft (ih (Nat.succ j)) 64)) n
noncomputable def h_multi {d : Nat} (lim : Nat) (k : xK d) : xK d := fun h c ls st => xpop st (fun v st => xpop st (fun u st => xint v (fun m => xint u (fun n => xck (Nat.blt m 50000000) (xck (Nat.blt n 1000) (Prod.rec (motive := fun _ => xR d) (fun c1 c2 => xck (Nat.blt (Nat.succ (Nat.add c1 n)) lim) (xck (Nat.beq (Prod.fst (Prod.snd (xget d h (Nat.pred lim)))) 0) (xst (Nat.add (Nat.mul c1 1048576) (Nat.shiftLeft (xpl n (Nat.succ c1)) 64)) (fun z => xsetK d h c1 (4, (n, z)) (fun h => xmk m n (Nat.succ c1) h (fun h => xst (Nat.add c2 (Nat.add n (Nat.mul n m))) (fun c3 => xst (Nat.add (Nat.succ c1) n) (fun c4 => xst (Nat.succ c1) (fun q => k h (c4, c3) ls (Sum.inr (Sum.inr q) :: st)))))))))) c))))))
theorem xpl_digit : ∀ (n j i : Nat), i < n → j + n < 18446744073709551615 → xpl n j / 18446744073709551616 ^ i % 18446744073709551616 = j + i + 1
  | 0, _, _, hi, _ => absurd hi (Nat.not_lt_zero _)
  | n + 1, j, i, hi, hj => by
    have e : xpl (n + 1) j = (j + 1) + 18446744073709551616 * xpl n (j + 1) := by
      show (j + 1) + (xpl n (j + 1)) <<< 64 = _
      rw [Nat.shiftLeft_eq, Nat.mul_comm, show (2 : Nat) ^ 64 = 18446744073709551616 by decide]
    rw [e]
    cases i with
    | zero =>
      rw [Nat.pow_zero, Nat.div_one, Nat.add_mul_mod_self_left, Nat.mod_eq_of_lt (by omega), Nat.add_zero]
    | succ i =>
      rw [Nat.pow_succ, Nat.mul_comm (18446744073709551616 ^ i), ← Nat.div_div_eq_div_mul, Nat.add_mul_div_left _ _ (by decide), Nat.div_eq_of_lt (show j + 1 < 18446744073709551616 by omega), Nat.zero_add, xpl_digit n (j + 1) i (by omega) (by omega)]
      omega
theorem xmk_s {d : Nat} {R : Type} {m : Nat} {k : xBT xC d → Option R} {x : R} : ∀ {n j : Nat} {h : xBT xC d}, j + n ≤ 2 ^ d → xmk m n j h k = some x → ∃ h1, k h1 = some x ∧ ∀ i, i < 2 ^ d → xget d h1 i = if j ≤ i ∧ i < j + n then (0, (m, i * 1048576)) else xget d h i
  | 0, j, h, _, hh => ⟨h, hh, fun i _ => by rw [if_neg (by omega)]⟩
  | n + 1, j, h, hj, hh => by
    have hh1 : xst (Nat.mul j 1048576) (fun z => xsetK d h j (0, (m, z)) (fun h => xst (Nat.succ j) (fun j => xmk m n j h k))) = some x := hh
    rw [xst_eq, xsetK_eq, xst_eq] at hh1
    obtain ⟨h1, e1, e2⟩ := xmk_s (n := n) (j := j + 1) (by omega) hh1
    refine ⟨h1, e1, fun i hi => ?_⟩
    rw [e2 i hi, xget_set d h j i _ (by omega) hi]
    by_cases a : i = j
    · subst a
      rw [if_neg (by omega), if_pos rfl, if_pos (by omega)]
      rfl
    · rw [if_neg a]
      by_cases b : j + 1 ≤ i ∧ i < j + 1 + n
      · rw [if_pos b, if_pos (by omega)]
      · rw [if_neg b, if_neg (by omega)]
section XMU
variable {p : Program} {l : Launch} {e : Env} {R : Room} {s : State} {m : MethodId} {args : Array Value} {below : List Frame} {meth : Method} {c : Code} {H : Heap} {locs : List Loc} {cells slots : Nat} {Q : State → Prop}
theorem mu_W (hexec : p.tables.exec = Jvm.exec) {cc : ByteArray} (hb : c.code = cc) {own : String} {index pc n k : Nat} {ls : Array Slot} {rest : List Value} (hown : s.vm.findClass own = some m.cls) (hclink : (Cond.classLink own index "[[I").before args s = true) (hover : (Cond.arrayOver (.array .int)).before args s = true) (harr : (Cond.arrayClass .int).before args s = true)
    (hn : n < 1000) (hk : k < 50000000) (hdg : decode cc pc = .ok (.multianewarray index 2, 4)) (hcells : cells + (1 + n) ≤ R.cells) (hslots : slots + (n + n * k) ≤ R.slots)
    (kk : ∀ (H1 : Heap) (cA comp : ClassId), s.vm.findClass "[[I" = some cA → s.vm.findClass "[I" = some comp → H1.size = H.size + 1 + n → (∀ a : Nat, a < H.size → H1[a]? = H[a]?) → H1[H.size]? = some (Jvm.Free.Multi.outerC cA n H.size n) → (∀ j, j < n → H1[H.size + 1 + j]? = some (Jvm.Free.Multi.innerC comp k (.int 0))) →
      W p l e R s m args below meth c H1 (locs ++ (List.range n).map fun j => ⟨H.size, j⟩) (cells + (1 + n)) (slots + (n + n * k)) Q (F0 m (pc + 4) ls (.ref H.size :: rest))) :
    W p l e R s m args below meth c H locs cells slots Q (F0 m pc ls (.int (nI k) :: .int (nI n) :: rest)) := by
  intro T hT X
  subst hT
  subst hb
  have e1 : (nI n).toNatClampNeg = n := xn_clamp (by omega)
  have e2 : (nI k).toNatClampNeg = k := xn_clamp (by omega)
  obtain ⟨vm1, cA, comp, hW, hfA, hfC, X1, st⟩ := Jvm.Stand.multianewarray2 X (ty := .int) hexec hown hclink hover harr (g := F0 m pc ls (.int (nI k) :: .int (nI n) :: rest)) rfl hdg (n := nI n) (k := nI k) (rest := rest) rfl (ck_pos (by omega)) (ck_pos (by omega)) (by rw [e1]; omega) (by rw [e2]; show k * 4 ≤ _; omega) (by rw [e2]; omega) rfl rfl (by rw [e1]; exact hcells) (by rw [e1, e2]; exact hslots)
  rw [e1, e2] at X1 st
  obtain ⟨f1, f2, f3, f4⟩ := Jvm.Free.Multi.fill_facts (T.setVm vm1) cA comp n k (defaultValue .int) n
  obtain ⟨t, a1, b1⟩ := kk (Jvm.Free.Multi.fill (T.setVm vm1) cA comp n k (defaultValue .int) n).heap cA comp hfA hfC f1 (fun a ha => Jvm.Free.Multi.fill_old (T.setVm vm1) cA comp n k (defaultValue .int) ha n) f2 (fun j hj => Jvm.Free.Multi.fill_inner (T.setVm vm1) cA comp n k (defaultValue .int) n j hj) _ rfl (by rw [← Nat.add_assoc, ← Nat.add_assoc]; exact X1)
  exact ⟨t, st t a1, b1⟩
end XMU
theorem mu_inner (comp : ClassId) (k : Nat) : Jvm.Free.Multi.innerC comp k (.int 0) = arrV comp k (fun _ => .int 0) := by
  unfold Jvm.Free.Multi.innerC arrV
  congr 1
  apply Array.ext
  · simp
  · intro i h1 h2
    simp
theorem mu_outer1 (cA : ClassId) (n h0 : Nat) : ∀ i, Jvm.Free.Multi.outerC cA n h0 i = arrV cA n (fun j => if j < i then .ref (h0 + 1 + j) else .null)
  | 0 => by
    unfold Jvm.Free.Multi.outerC arrV
    congr 1
    apply Array.ext
    · simp
    · intro i h1 h2
      simp
  | i + 1 => by
    show (Jvm.Free.Multi.outerC cA n h0 i).setSlot i (.ref (h0 + 1 + i)) = _
    rw [mu_outer1 cA n h0 i, arrV_store]
    refine congrArg (arrV cA n) (funext fun j => ?_)
    show updV _ _ _ _ = _
    unfold updV
    by_cases h : j = i
    · subst h
      rw [if_pos rfl, if_pos (by omega)]
    · rw [if_neg h]
      dsimp only
      by_cases h2 : j < i
      · rw [if_pos h2, if_pos (by omega)]
      · rw [if_neg h2, if_neg (by omega)]
theorem mu_outer (cA : ClassId) (n h0 : Nat) {f : Nat → Value} (hf : ∀ j, j < n → f j = .ref (h0 + 1 + j)) : Jvm.Free.Multi.outerC cA n h0 n = arrV cA n f := by
  rw [mu_outer1]
  unfold arrV
  congr 1
  apply Array.ext
  · simp
  · intro i h1 h2
    have hi : i < n := by simpa using h1
    simp only [Array.getElem_ofFn]
    rw [if_pos hi, hf i hi]
section XMULTI
variable {l : Launch} {Dg : va_G} {cl : List vw_C} {tys : List (ClassId × FieldType)} {cA fl : Nat → Nat} {ft : Nat → Nat → Nat} {base : Nat} {adS : Nat → Nat} {GW : List Cond}
variable {xy : Nat → MethodName} {xc : Nat → ByteArray} {xn : Nat → Nat} {xr : Nat → Option FieldType} {Ex : State → Heap → Prop} {d e : Nat} {code : xBT (xB d) e}
variable {K dl mi pc : Nat} {fs : List xF} {fin : xE d} {k k' : xK d}
theorem s_multi {t0 t4 lim index : Nat} (hd9 : 2 ^ d ≤ 1000) (hlim : lim = 2 ^ d) (ht : tys[t0]? = some (cA 0, .int)) (ht4 : tys[t4]? = some (cA 4, .array .int)) (hOv : ∀ s : State, Ex s s.heap → va_Nw (.arrayOver (.array .int)) s) (hw : Cond.classLink (xy mi).cls index "[[I" ∈ GW ∧ Cond.arrayClass .int ∈ GW) (hd : decode (xc mi) pc = .ok (.multianewarray index 2, 4)) (hk : xSK l Dg cl tys cA fl ft base adS GW xy xc xn xr Ex code K dl fs fin mi (pc + 4) k) : xSK l Dg cl tys cA fl ft base adS GW xy xc xn xr Ex code K dl fs fin mi pc (h_multi lim k) := by
  subst hlim
  intro h c ls st hh
  obtain ⟨v, t, rfl, hh1⟩ := xpop_s hh
  obtain ⟨u, t, rfl, hh2⟩ := xpop_s hh1
  obtain ⟨m, rfl, hh3⟩ := xint_s hh2
  obtain ⟨n, rfl, hh4⟩ := xint_s hh3
  obtain ⟨q1, hh5⟩ := xck_s hh4
  obtain ⟨q2, hh6⟩ := xck_s hh5
  obtain ⟨c1, c2⟩ := c
  obtain ⟨q3, hh7⟩ := xck_s (b := Nat.blt (Nat.succ (Nat.add c1 n)) (2 ^ d)) hh6
  obtain ⟨q5, hh7⟩ := xck_s hh7
  have q5 : xgap h = 0 := Nat.eq_of_beq_eq_true q5
  rw [xst_eq, xsetK_eq] at hh7
  have q1 := (blt_iff _ _).mp q1
  have q2 := (blt_iff _ _).mp q2
  have q3 : c1 + n + 1 < 2 ^ d := (blt_iff _ _).mp q3
  obtain ⟨h1, hh8, hg⟩ := xmk_s (n := n) (j := Nat.succ c1) (by show c1 + 1 + n ≤ _; omega) hh7
  rw [xst_eq, xst_eq, xst_eq] at hh8
  obtain ⟨r, h', c', l1, l2, l3, l4, w⟩ := hk _ _ _ _ hh8
  have l1 : c1 + 1 + n ≤ c'.1 := l1
  have l2 : c2 + (n + n * m) ≤ c'.2 := l2
  refine ⟨r, h', c', by show c1 ≤ _; omega, by show c2 ≤ _; omega, fun _ => l3 (by show c1 + 1 + n < _; omega), l4, ?_⟩
  intro p e R s m0 args below meth cd H locs lsA cells slots mc ms X N1 g1 g2 g3 g4
  have g1 : cells + (c'.1 - c1) = mc := g1
  have g2 : slots + (c'.2 - c2) = ms := g2
  refine mu_W X.1 X.2.1 X.2.2.2.2.2.1 (X.2.2.2.2.2.2.2.1 _ hw.1) (over_moved (Vm.Alike.refl s.vm) (hOv s X.2.2.2.2.2.2.2.2.2.1)) (X.2.2.2.2.2.2.2.1 _ hw.2) q2 q1 hd (by omega) (by omega) fun H1 cO cI eO eI z1 o1 a1 b1 => ?_
  have hcO : cO = cA 4 := by
    have h9 : s.vm.findClass "[[I" = some (cA 4) := (X.2.2.2.2.2.2.2.2.1.2 t4 _ ht4).2
    exact Option.some.inj (eO.symm.trans h9)
  have hcI : cI = cA 0 := by
    have h9 : s.vm.findClass "[I" = some (cA 0) := (X.2.2.2.2.2.2.2.2.1.2 t0 _ ht).2
    exact Option.some.inj (eI.symm.trans h9)
  subst hcO
  subst hcI
  obtain ⟨n1, n2, n3, n4, n5⟩ := N1
  have n1 : H.size = base + c1 := by
    have n9 : H.size = base + c1 + xgap h := n1
    rw [n9, q5, Nat.add_zero]
  have q6 : xgap h1 = 0 := by
    unfold xgap
    have e : Nat.pred (2 ^ d) = 2 ^ d - 1 := rfl
    rw [e, hg (2 ^ d - 1) (by omega), if_neg (by omega), xget_set d h c1 (2 ^ d - 1) _ (by omega) (by omega), if_neg (by omega)]
    exact q5
  have N2 : xNow Dg cl cA fl ft base adS d h1 (c1 + 1 + n) (xn mi) ls s H1 (locs ++ (List.range n).map fun j => ⟨H.size, j⟩) lsA := by
    refine ⟨by rw [z1, n1, q6]; omega, by omega, ?_, ⟨Nat.le_trans n4.1 (by rw [z1]; omega), fun q hq hb => by rw [o1 q (Nat.lt_of_lt_of_le hq n4.1)]; exact n4.2.1 q hq hb, fun q hq => by
      rcases List.mem_append.mp hq with z | z
      · exact n4.2.2 q z
      · obtain ⟨j, -, rfl⟩ := List.mem_map.mp z
        show base ≤ H.size
        omega⟩, n5⟩
    intro i q hq
    have hi : i < c1 + 1 + n := by
      have h9 := (List.getElem?_eq_some_iff.mp hq).1
      simpa [xws] using h9
    rw [xws_get hi] at hq
    cases hq
    have hgi := hg i (by omega)
    rcases Nat.lt_trichotomy i c1 with hlt | heq | hgt
    · rw [if_neg (by omega), xget_set d h c1 i _ (by omega) (by omega), if_neg (by omega)] at hgi
      rw [hgi]
      have h9 := n3 i _ (xws_get (show i < c1 from hlt))
      have hadr : xad base adS i = base + i := xad_in (by omega)
      unfold va_at at h9 ⊢
      dsimp only at h9 ⊢
      cases hx : xcell (xad base adS) cA fl ft (xget d h i) with
      | inl a =>
        rw [hx] at h9
        dsimp only at h9 ⊢
        rw [o1 _ (by rw [hadr, n1]; omega)]
        exact h9
      | inr o =>
        rw [hx] at h9
        dsimp only at h9 ⊢
        obtain ⟨r9, e9, f9⟩ := h9
        exact ⟨r9, e9, f9.kept (o1 _ (by rw [hadr, n1]; omega))⟩
    · subst heq
      rw [if_neg (by omega), xget_set d h i i _ (by omega) (by omega), if_pos rfl] at hgi
      rw [hgi]
      show H1[xad base adS i]? = some (vp_cell (cA 4) (n, .inr (.inr (.inr (.inr (fun y => xrf (xad base adS) (xd8 (Nat.add (Nat.mul i 1048576) (Nat.shiftLeft (xpl n (Nat.succ i)) 64)) y)))))))
      rw [xad_in (by omega), ← n1, a1, vp_cell_q]
      refine congrArg some (mu_outer _ _ _ fun y hy => ?_)
      have hdig : xd8 (Nat.add (Nat.mul i 1048576) (Nat.shiftLeft (xpl n (Nat.succ i)) 64)) y = i + 1 + y + 1 := by
        show xdg 64 18446744073709551616 (i * 1048576 + (xpl n (i + 1)) <<< 64) (y + 1) = _
        rw [xdg_eq (by decide +kernel), Nat.pow_succ, Nat.mul_comm (18446744073709551616 ^ y), ← Nat.div_div_eq_div_mul, Nat.shiftLeft_eq, show (2 : Nat) ^ 64 = 18446744073709551616 by decide, Nat.mul_comm (xpl n (i + 1)), Nat.add_mul_div_left _ _ (by decide), Nat.div_eq_of_lt (show i * 1048576 < 18446744073709551616 by omega), Nat.zero_add, xpl_digit n (i + 1) y hy (by omega)]
      rw [hdig]
      show Value.ref (xad base adS (i + 1 + y)) = Value.ref (H.size + 1 + y)
      rw [xad_in (show i + 1 + y < 1000 by omega), n1]
      have e9 : base + (i + 1 + y) = base + i + 1 + y := by omega
      exact congrArg Value.ref e9
    · rw [if_pos (by omega)] at hgi
      rw [hgi]
      obtain ⟨j, rfl⟩ : ∃ j, i = c1 + 1 + j := ⟨i - c1 - 1, by omega⟩
      show H1[xad base adS (c1 + 1 + j)]? = some (vp_cell (cA 0) (m, .inl (fun y => nI (xd4 ((c1 + 1 + j) * 1048576) y))))
      rw [xad_in (by omega), show base + (c1 + 1 + j) = H.size + 1 + j by omega, b1 j (by omega), mu_inner, vp_cell_i]
      refine congrArg (fun z => some (arrV (cA 0) m z)) (funext fun y => ?_)
      rw [xd4_0 (by omega), nI_0]
  have hw2 := w p e R s m0 args below meth cd H1 _ lsA (cells + (1 + n)) (slots + (n + n * m)) mc ms X N2 (by show cells + (1 + n) + (c'.1 - (c1 + 1 + n)) = mc; omega) (by show slots + (n + n * m) + (c'.2 - (c2 + (n + n * m))) = ms; omega) g3 g4
  have hh9 : (xval (xad base adS) (.inr (.inr (Nat.succ c1)))) = .ref H.size := by
    show Value.ref (xad base adS c1) = _
    rw [xad_in (by omega), n1]
  rw [List.map_cons, hh9] at hw2
  exact hw2
theorem m_xmk {R : Type} {x : R} {m : Nat} {k k' : xBT xC d → Option R} (hk : ∀ h, k h = some x → k' h = some x) : ∀ {n j : Nat} {h : xBT xC d}, xmk m n j h k = some x → xmk m n j h k' = some x
  | 0, _, h => hk h
  | n + 1, j, h => m_xst (n := Nat.mul j 1048576) fun z => m_xsetK (t := h) (i := j) (a := (0, (m, z))) fun h => m_xst (n := Nat.succ j) fun j => m_xmk hk (n := n) (j := j) (h := h)
theorem m_multi {lim : Nat} (hk : xKm fin k k') : xKm fin (h_multi lim k) (h_multi lim k') := fun h c ls st => m_xpop (st := st) fun v st => m_xpop (st := st) fun u st => m_xint (v := v) fun m => m_xint (v := u) fun n => m_xck (m_xck (by
  obtain ⟨c1, c2⟩ := c
  exact m_xck (m_xck (m_xst fun z => m_xsetK fun h => m_xmk (fun h => m_xst fun c3 => m_xst fun c4 => m_xst fun q => hk h (c4, c3) ls (Sum.inr (Sum.inr q) :: st))))))
end XMULTI

/-! String.checkIndex(II): what it does when the index is in its range: nothing. -/
noncomputable def h_ckix {d : Nat} (k : xK d) : xK d := fun h c ls st => xpop st (fun v st => xpop st (fun u st => xint v (fun m => xint u (fun i => xck (Nat.blt i m) (xck (Nat.blt m 2147483648) (xsmall 8 st (k h c ls st)))))))
def yCkS : MethodName := { cls := "java/lang/String", name := "checkIndex", desc := "(II)V" }
def yCkP : MethodName := { cls := "jdk/internal/util/Preconditions", name := "checkIndex", desc := "(IILjava/util/function/BiFunction;)I" }
/-- what the call wants of the words -/
def xCkW (GW : List Cond) (own : String) (index : Nat) : Prop :=
  (Cond.methodLink own index yCkS ∈ GW ∧ Cond.initialized "java/lang/String" ∈ GW ∧ Cond.static yCkS ∈ GW ∧ Cond.code yCkS prog_31_method_155_code 2 none ∈ GW) ∧
  (Cond.fieldLink "java/lang/String" 1053 "jdk/internal/util/Preconditions" "SIOOBE_FORMATTER" "Ljava/util/function/BiFunction;" ∈ GW ∧ Cond.methodLink "java/lang/String" 1059 yCkP ∈ GW ∧ Cond.initialized "jdk/internal/util/Preconditions" ∈ GW ∧ Cond.static yCkP ∈ GW ∧ Cond.code yCkP prog_42_method_11_code 3 (some .int) ∈ GW)
theorem d_ckP_0 : decode prog_42_method_11_code 0 = .ok (.iload_n 0, 1) := by decide +kernel
theorem d_ckP_1 : decode prog_42_method_11_code 1 = .ok (.ifCond .lt 8, 3) := by decide +kernel
theorem d_ckP_4 : decode prog_42_method_11_code 4 = .ok (.iload_n 0, 1) := by decide +kernel
theorem d_ckP_5 : decode prog_42_method_11_code 5 = .ok (.iload_n 1, 1) := by decide +kernel
theorem d_ckP_6 : decode prog_42_method_11_code 6 = .ok (.if_icmp .lt 10, 3) := by decide +kernel
theorem d_ckP_16 : decode prog_42_method_11_code 16 = .ok (.iload_n 0, 1) := by decide +kernel
theorem d_ckP_17 : decode prog_42_method_11_code 17 = .ok (.ireturn, 1) := by decide +kernel
theorem d_ckS_0 : decode prog_31_method_155_code 0 = .ok (.iload_n 0, 1) := by decide +kernel
theorem d_ckS_1 : decode prog_31_method_155_code 1 = .ok (.iload_n 1, 1) := by decide +kernel
theorem d_ckS_2 : decode prog_31_method_155_code 2 = .ok (.getstatic 1053, 3) := by decide +kernel
theorem d_ckS_5 : decode prog_31_method_155_code 5 = .ok (.invokestatic 1059, 3) := by decide +kernel
theorem d_ckS_8 : decode prog_31_method_155_code 8 = .ok (.pop, 1) := by decide +kernel
theorem d_ckS_9 : decode prog_31_method_155_code 9 = .ok (.return_, 1) := by decide +kernel
theorem ck_pos {i : Nat} (h : i < 2147483648) : ¬ nI i < 0 := by
  rw [← nI_0, xn_lt]
  show ¬ (i + 2147483648) % 4294967296 < (0 + 2147483648) % 4294967296
  omega
theorem ck_lt {i m : Nat} (h : i < m) (hm : m < 2147483648) : nI i < nI m := by
  rw [xn_lt]
  show (i + 2147483648) % 4294967296 < (m + 2147483648) % 4294967296
  omega
section XCK
variable {l : Launch} {Dg : va_G} {cl : List vw_C} {tys : List (ClassId × FieldType)} {cA fl : Nat → Nat} {ft : Nat → Nat → Nat} {base : Nat} {adS : Nat → Nat} {GW : List Cond}
variable {xy : Nat → MethodName} {xc : Nat → ByteArray} {xn : Nat → Nat} {xr : Nat → Option FieldType} {Ex : State → Heap → Prop} {d e : Nat} {code : xBT (xB d) e}
variable {K dl mi pc : Nat} {fs : List xF} {fin : xE d} {k : xK d}
theorem ck_P {i m0 n : Nat} {v : Value} {h : xBT xC d} (hEm : ∀ (u U : State) (H : Heap), u.WarmedH U.vm → Ex u H → Ex U H) (hv : v = .null ∨ ∃ t, v = .ref t) (hi : i < m0) (hm : m0 < 2147483648) :
    Met l yCkP (Cond.code yCkP prog_42_method_11_code 3 (some .int) :: GW) ({ frames := 0, cells := 0, slots := 0, locals := 0 }) (va_Pc [.int (nI i), .int (nI m0), v] (fun U => xWd Dg cl tys cA fl ft base adS Ex d h n U)) (xQ Dg cl tys cA fl ft base adS Ex d (some (.inl i)) h n) 0 0 (fun q => base ≤ q) := by
  refine Met.ofW (cc := prog_42_method_11_code) (maxL := 3) (ret := some .int) (by decide) rfl ?_
  intro p e s m args below meth cd s₁ B hml hv0
  obtain ⟨rfl, hsz, hP, hK, hE⟩ := hv0
  have hx := B.exec
  have hb := B.bytes
  have hr := B.returns
  have hlocks := B.notSynchronized
  have hl : lv_has ((lg_sl ([.int (nI i), .int (nI m0), v]) ++ List.replicate (3 - (lg_sl ([.int (nI i), .int (nI m0), v])).length) Slot.unset).toArray) 3 [(0, .int (nI i)), (1, .int (nI m0))] := by
    rcases hv with rfl | ⟨t, rfl⟩
    · exact lv_sub (lv_entry ([.int (nI i), .int (nI m0), .null]) (n := 3) (Nat.le_of_ble_eq_true rfl)) [0, 1] rfl
    · exact lv_sub (lv_entry ([.int (nI i), .int (nI m0), .ref t]) (n := 3) (Nat.le_of_ble_eq_true rfl)) [0, 1] rfl
  rw [lg_entry_eq]
  generalize (lg_sl ([.int (nI i), .int (nI m0), v]) ++ List.replicate (3 - (lg_sl ([.int (nI i), .int (nI m0), v])).length) Slot.unset).toArray = ls at hl ⊢
  refine lv_iload_n hx hb d_ckP_0 rfl (lv_at hl 0 rfl) ?_
  refine lv_if_lt (tgt := 9) hx hb d_ckP_1 (by decide) (fun z => absurd z (ck_pos (by omega))) (fun _ => ?_)
  refine lv_iload_n hx hb d_ckP_4 rfl (lv_at hl 0 rfl) ?_
  refine lv_iload_n hx hb d_ckP_5 rfl (lv_at hl 1 rfl) ?_
  refine lv_icmp_lt (tgt := 16) hx hb d_ckP_6 (by decide) (fun _ => ?_) (fun z => absurd (ck_lt hi hm) z)
  refine lv_iload_n hx hb d_ckP_16 rfl (lv_at hl 0 rfl) ?_
  exact W.iret (v := nI i) hx hb hr (fun t ht hW => ⟨rfl, ⟨by rw [ht]; exact hsz, by rw [ht]; exact hP, va_K.moved hW.alike hK, by rw [ht]; exact hEm s t s.heap hW hE⟩, (va_S.rf (A := fun q => base ≤ q)).F ht⟩) (fun q hq => absurd hq List.not_mem_nil) d_ckP_17 hlocks
theorem ck_S {i m0 n : Nat} {h : xBT xC d} (hEk : ∀ (U : State) (H H1 : Heap), Ex U H → (∀ a, a < H.size → ¬ base ≤ a → H1[a]? = H[a]?) → Ex U H1) (hEm : ∀ (u U : State) (H : Heap), u.WarmedH U.vm → Ex u H → Ex U H) (hEv : ∀ (u U : State) (H : Heap), U.vm = u.vm → Ex u H → Ex U H) (hG : ∀ w ∈ GW, (w.onTables && w.keeps) = true ∨ ∃ ty, w = .arrayClass ty)
    (hCk : ∀ s : State, Ex s s.heap → va_Zq "jdk/internal/util/Preconditions" "SIOOBE_FORMATTER" "Ljava/util/function/BiFunction;" (fun q => base ≤ q) s s.heap) {own : String} {index : Nat} (hw : xCkW GW own index) (hn : n < 2 ^ d) (hi : i < m0) (hm : m0 < 2147483648) :
    Met l yCkS (Cond.code yCkS prog_31_method_155_code 2 none :: GW) ({ frames := 1, cells := 0, slots := 0, locals := 22 }) (va_Pc [.int (nI i), .int (nI m0)] (fun U => xWd Dg cl tys cA fl ft base adS Ex d h n U)) (xQ Dg cl tys cA fl ft base adS Ex d none h n) 0 0 (fun q => base ≤ q) := by
  refine Met.ofW (cc := prog_31_method_155_code) (maxL := 2) (ret := none) (by decide) rfl ?_
  intro p e s m args below meth cd s₁ B hml hv0
  obtain ⟨rfl, hsz, hP, hK, hE⟩ := hv0
  have hx := B.exec
  have hb := B.bytes
  have hr := B.returns
  have hlocks := B.notSynchronized
  have hts := atoms_spec (ws := Cond.code yCkS prog_31_method_155_code 2 none :: GW) B.pre
  have hown : s.vm.findClass "java/lang/String" = some m.cls := findClass_of_methodNamed B.named
  have x8 : ∀ w ∈ GW, w.before _ s = true := fun w hw => hts w (List.mem_cons_of_mem _ hw)
  have hL : xL (xad base adS) ((lg_sl ([.int (nI i), .int (nI m0)]) ++ List.replicate (2 - (lg_sl ([.int (nI i), .int (nI m0)])).length) Slot.unset).toArray) 2 [some (.inl i), some (.inl m0)] :=
    xL_entry (ad := xad base adS) (vs := [.inl i, .inl m0]) (nL := 2) (fun v hv => by
      rcases List.mem_cons.mp hv with rfl | hv
      · rfl
      · rw [List.mem_singleton.mp hv]; rfl) (Nat.le_refl 2)
  rw [lg_entry_eq]
  generalize (lg_sl ([.int (nI i), .int (nI m0)]) ++ List.replicate (2 - (lg_sl ([.int (nI i), .int (nI m0)])).length) Slot.unset).toArray = ls at hL ⊢
  refine lv_iload_n hx hb d_ckS_0 rfl (xL_at hL (i := 0) (v := .inl i) rfl rfl) ?_
  refine lv_iload_n hx hb d_ckS_1 rfl (xL_at hL (i := 1) (v := .inl m0) rfl rfl) ?_
  have hN : xNow Dg cl cA fl ft base adS d h n 2 [some (.inl i), some (.inl m0)] s s.heap [] ls := ⟨hsz, hn, hP, va_S.rf, hL⟩
  have go : ∀ v : Value, (v = .null ∨ ∃ t, v = .ref t) → va_Z "jdk/internal/util/Preconditions" "SIOOBE_FORMATTER" "Ljava/util/function/BiFunction;" v (fun q => base ≤ q) s s.heap → W p l e ({ frames := 1, cells := 0, slots := 0, locals := 22 }) s m #[.int (nI i), .int (nI m0)] below meth cd s.heap [] 0 0 (MQ below (xQ Dg cl tys cA fl ft base adS Ex d none h n) #[.int (nI i), .int (nI m0)] s 0 0 (fun q => base ≤ q)) (F0 m 2 ls [.int (nI m0), .int (nI i)]) := by
    intro v hv hZ
    refine va_gets hx hb hZ va_S.rf hown (x8 _ hw.2.1) (fun x hx => hx) d_ckS_2 ?_
    have hR := va_runS (R := ({ frames := 1, cells := 0, slots := 0, locals := 22 } : Room)) (As := [.int (nI i), .int (nI m0), v]) (rest := []) (g := F0 m 5 ls [v, .int (nI m0), .int (nI i)]) (cc := prog_31_method_155_code) (nL := 2) (cells := 0) (slots := 0) (H := s.heap) (locs := []) (below := below) (meth := meth) (c := cd) (p := p) (e := e) (m := m)
      ⟨hx, hb, hml, hown, x8⟩ (ck_P (l := l) (GW := GW) (Dg := Dg) (cl := cl) (tys := tys) (cA := cA) (fl := fl) (ft := ft) (base := base) (adS := adS) (h := h) (n := n) hEm hv hi hm)
      ⟨⟨rfl, rfl, by decide, by decide, fun w hw2 a' U hW => by
        have hw3 : w ∈ GW := by
          rcases List.mem_cons.mp hw2 with z | z
          · rw [z]; exact hw.2.2.2.2.2
          · exact z
        exact word_at hW (hG w hw3) (x8 w hw3), List.mem_cons_self, x8 _ hw.2.2.2.2.2, x8 _ hw.2.2.2.1, by decide, fun sig hs => by
        have h5 : (parseMethodDescriptor yCkP.desc).map (fun d => d.parameters.length) = some 3 := by decide +kernel
        rw [hs] at h5
        exact (Option.some.inj h5).symm, x8 _ hw.2.2.1⟩, x8 _ hw.2.2.2.2.1⟩
      ⟨xWd_blind hEv, fun U hU hW => ⟨rfl, by rw [hU]; exact hsz, by rw [hU]; exact hP, va_K.moved hW.alike hK, by rw [hU]; exact hEm s U s.heap hW hE⟩⟩ rfl rfl hL.2.1 rfl (lv_room (Nat.le_of_ble_eq_true rfl)) d_ckS_5 ⟨Nat.le_refl 0, Nat.le_refl 0⟩
    refine x_after (r1 := some (.inl i)) hR hN hn fun H1 locs1 N1 => ?_
    refine lv_pop hx hb d_ckS_8 rfl ?_
    exact W.vret hx hb hr (fun t ht hW => ⟨rfl, ⟨by rw [ht]; exact N1.1, by rw [ht]; exact N1.2.2.1, va_K.moved hW.alike hK, by rw [ht]; exact hEm s t H1 hW (hEk s s.heap H1 hE N1.2.2.2.1.2.1)⟩, N1.2.2.2.1.F ht⟩) N1.2.2.2.1.2.2 d_ckS_9 hlocks
  rcases hCk s hE with hZ | ⟨t, hZ⟩
  · exact go _ (Or.inl rfl) hZ
  · exact go _ (Or.inr ⟨t, rfl⟩) hZ
theorem s_ckix {index : Nat} (hEk : ∀ (U : State) (H H1 : Heap), Ex U H → (∀ a, a < H.size → ¬ base ≤ a → H1[a]? = H[a]?) → Ex U H1) (hEm : ∀ (u U : State) (H : Heap), u.WarmedH U.vm → Ex u H → Ex U H) (hEv : ∀ (u U : State) (H : Heap), U.vm = u.vm → Ex u H → Ex U H) (hG : ∀ w ∈ GW, (w.onTables && w.keeps) = true ∨ ∃ ty, w = .arrayClass ty)
    (hCk : ∀ s : State, Ex s s.heap → va_Zq "jdk/internal/util/Preconditions" "SIOOBE_FORMATTER" "Ljava/util/function/BiFunction;" (fun q => base ≤ q) s s.heap) (hw : xCkW GW (xy mi).cls index)
    (hd : decode (xc mi) pc = .ok (.invokestatic index, 3)) (hk : xSK l Dg cl tys cA fl ft base adS GW xy xc xn xr Ex code K dl fs fin mi (pc + 3) k) : xSK l Dg cl tys cA fl ft base adS GW xy xc xn xr Ex code K dl fs fin mi pc (h_ckix k) := by
  intro h c ls st hh
  obtain ⟨v, t, rfl, hh1⟩ := xpop_s hh
  obtain ⟨u, t, rfl, hh2⟩ := xpop_s hh1
  obtain ⟨m0, rfl, hh3⟩ := xint_s hh2
  obtain ⟨i, rfl, hh4⟩ := xint_s hh3
  obtain ⟨hi, hh5⟩ := xck_s hh4
  obtain ⟨hm, hh6⟩ := xck_s hh5
  obtain ⟨hsm, hh7⟩ := xsmall_s (ad := xad base adS) hh6
  have hi := (blt_iff _ _).mp hi
  have hm := (blt_iff _ _).mp hm
  obtain ⟨r, h', c', l1, l2, l3, l4, w⟩ := hk h c ls _ hh7
  refine ⟨r, h', c', l1, l2, l3, l4, ?_⟩
  intro p e R s m args below meth cd H locs lsA cells slots mc ms X N g1 g2 g3 g4
  have f1 : 1 + 1 ≤ R.frames := by have := X.2.2.2.2.2.2.2.2.2.2.2.1; omega
  have f2 : 8 + (2 + 11) + 22 ≤ R.locals := by have := X.2.2.2.2.2.2.2.2.2.2.2.2; omega
  have hM := ck_S (l := l) (GW := GW) (Dg := Dg) (cl := cl) (tys := tys) (cA := cA) (fl := fl) (ft := ft) (base := base) (adS := adS) (h := h) (n := c.1) hEk hEm hEv hG hCk hw N.2.1 hi hm
  have hR := va_runS (As := [.int (nI i), .int (nI m0)]) (rest := t.map (xval (xad base adS))) (g := F0 m pc lsA (.int (nI m0) :: .int (nI i) :: t.map (xval (xad base adS)))) (cc := xc mi) (nL := xn mi) (cells := cells) (slots := slots) (H := H) (locs := locs) (below := below) (meth := meth) (c := cd) (p := p) (e := e) (m := m)
    ⟨X.1, X.2.1, X.2.2.2.1, X.2.2.2.2.2.1, X.2.2.2.2.2.2.2.1⟩ hM
    ⟨⟨rfl, rfl, f1, f2, fun w hw2 a' U hW => by
      have hw3 : w ∈ GW := by
        rcases List.mem_cons.mp hw2 with z | z
        · rw [z]; exact hw.1.2.2.2
        · exact z
      exact word_at hW (hG w hw3) (X.2.2.2.2.2.2.2.1 w hw3), List.mem_cons_self, X.2.2.2.2.2.2.2.1 _ hw.1.2.2.2, X.2.2.2.2.2.2.2.1 _ hw.1.2.1, by decide, fun sig hs => by
      have h5 : (parseMethodDescriptor yCkS.desc).map (fun d => d.parameters.length) = some 2 := by decide +kernel
      rw [hs] at h5
      exact (Option.some.inj h5).symm, X.2.2.2.2.2.2.2.1 _ hw.1.1⟩, X.2.2.2.2.2.2.2.1 _ hw.1.2.2.1⟩
    ⟨xWd_blind hEv, fun U hU hW => ⟨rfl, xWd_of hEk hEm X N U hU hW⟩⟩ rfl rfl N.2.2.2.2.2.1 rfl (lv_room hsm) hd ⟨by omega, by omega⟩
  refine x_after (r1 := none) hR N N.2.1 fun H1 locs1 N1 => ?_
  exact w p e R s m args below meth cd H1 locs1 lsA _ _ mc ms X N1 (by omega) (by omega) g3 g4
end XCK

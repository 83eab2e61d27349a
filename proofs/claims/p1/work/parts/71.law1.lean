theorem bad_in : ∀ w ∈ xBad, w ∈ lw_tbl := by
  intro w h
  simp only [xBad, List.mem_cons, List.not_mem_nil, or_false] at h
  rcases h with rfl | rfl | rfl | rfl | rfl | rfl
  · exact (sub_5 (List.mem_of_getElem? (i := 172) rfl))
  · exact (sub_7 (List.mem_of_getElem? (i := 129) rfl))
  · exact (sub_13 (List.mem_of_getElem? (i := 170) rfl))
  · exact (sub_5 (List.mem_of_getElem? (i := 173) rfl))
  · exact (sub_5 (List.mem_of_getElem? (i := 175) rfl))
  · exact (sub_5 (List.mem_of_getElem? (i := 177) rfl))
/-! The law's ground is there where it begins: by a program (wip/p1/genlaw1.py). -/
theorem l_arr {args : Array Value} {s : State} {ty : FieldType} (h : (Cond.arrayClass ty).before args s = true) : ∃ comp : ClassId, ArrOfT s comp ty ∧ s.vm.findClass ("[" ++ ty.toString) = some comp := by
  obtain ⟨comp, kC, cc, h1, h2, h3⟩ := Cond.arrayClass_spec h
  exact ⟨comp, fun n z => ⟨fun x => by simp [arrV], kC, h2, cc, h3⟩, h1⟩
theorem l_arr2 {args : Array Value} {s : State} (h : (Cond.arrayOver (.array .int)).before args s = true) : ∃ comp : ClassId, ArrOfT s comp (.array .int) ∧ s.vm.findClass ("[" ++ (FieldType.array .int).toString) = some comp := by
  obtain ⟨comp, c, k, h1, h2, h3, h4, h5⟩ := arrayOverA_spec h
  exact ⟨c, fun n z => ⟨fun x => by simp [arrV], k, h3, comp, h4⟩, h5⟩
theorem l_known {args : Array Value} {s : State} (hts : ∀ w ∈ lw_tbl, w.before args s = true) : ∀ k : Nat, ∃ z : ClassId × (Nat → Nat), ∀ q : vw_C, clz[k]? = some q → u_Kn s q.1 q.2.1 q.2.2 z.1 z.2 := fun k =>
  match k with
  | 0 => by
    obtain ⟨c, iS, h⟩ := u_known (C := "ChoiceTongue") (T := Tz_0) (N := 13) (n := 13) (fun w hw => hts w (sub_GWz w hw)) Cz_0.2.2.1 (hts (.instantiable "ChoiceTongue" 13) (sub_1 (List.mem_of_getElem? (i := 36) rfl)))
    exact ⟨(c, iS), fun q hq => by
      have e : some ("ChoiceTongue", Tz_0, 13) = some q := hq
      cases e
      exact h⟩
  | 1 => by
    obtain ⟨c, iS, h⟩ := u_known (C := "ChoiceTongue$Checke\x72") (T := Tz_1) (N := 14) (n := 14) (fun w hw => hts w (sub_GWz w hw)) Cz_1.2.2.1 (hts (.instantiable "ChoiceTongue$Checke\x72" 14) (sub_2 (List.mem_of_getElem? (i := 88) rfl)))
    exact ⟨(c, iS), fun q hq => by
      have e : some ("ChoiceTongue$Checke\x72", Tz_1, 14) = some q := hq
      cases e
      exact h⟩
  | 2 => by
    obtain ⟨c, iS, h⟩ := u_known (C := "ChoiceTongue$Code") (T := Tz_2) (N := 9) (n := 9) (fun w hw => hts w (sub_GWz w hw)) Cz_2.2.2.1 (hts (.instantiable "ChoiceTongue$Code" 9) (sub_1 (List.mem_of_getElem? (i := 86) rfl)))
    exact ⟨(c, iS), fun q hq => by
      have e : some ("ChoiceTongue$Code", Tz_2, 9) = some q := hq
      cases e
      exact h⟩
  | 3 => by
    obtain ⟨c, iS, h⟩ := u_known (C := "ChoiceTongue$Judge") (T := Tz_3) (N := 14) (n := 14) (fun w hw => hts w (sub_GWz w hw)) Cz_3.2.2.1 (hts (.instantiable "ChoiceTongue$Judge" 14) (sub_2 (List.mem_of_getElem? (i := 137) rfl)))
    exact ⟨(c, iS), fun q hq => by
      have e : some ("ChoiceTongue$Judge", Tz_3, 14) = some q := hq
      cases e
      exact h⟩
  | 4 => by
    obtain ⟨c, iS, h⟩ := u_known (C := "ChoiceTongue$Lexe\x72") (T := Tz_4) (N := 9) (n := 9) (fun w hw => hts w (sub_GWz w hw)) Cz_4.2.2.1 (hts (.instantiable "ChoiceTongue$Lexe\x72" 9) (sub_1 (List.mem_of_getElem? (i := 44) rfl)))
    exact ⟨(c, iS), fun q hq => by
      have e : some ("ChoiceTongue$Lexe\x72", Tz_4, 9) = some q := hq
      cases e
      exact h⟩
  | 5 => by
    obtain ⟨c, iS, h⟩ := u_known (C := "ChoiceTongue$Machine") (T := Tz_5) (N := 21) (n := 21) (fun w hw => hts w (sub_GWz w hw)) Cz_5.2.2.1 (hts (.instantiable "ChoiceTongue$Machine" 21) (sub_3 (List.mem_of_getElem? (i := 75) rfl)))
    exact ⟨(c, iS), fun q hq => by
      have e : some ("ChoiceTongue$Machine", Tz_5, 21) = some q := hq
      cases e
      exact h⟩
  | 6 => by
    obtain ⟨c, iS, h⟩ := u_known (C := "ChoiceTongue$Out") (T := Tz_6) (N := 15) (n := 15) (fun w hw => hts w (sub_GWz w hw)) Cz_6.2.2.1 (hts (.instantiable "ChoiceTongue$Out" 15) (sub_3 (List.mem_of_getElem? (i := 14) rfl)))
    exact ⟨(c, iS), fun q hq => by
      have e : some ("ChoiceTongue$Out", Tz_6, 15) = some q := hq
      cases e
      exact h⟩
  | 7 => by
    obtain ⟨c, iS, h⟩ := u_known (C := "ChoiceTongue$Parse\x72") (T := Tz_7) (N := 9) (n := 9) (fun w hw => hts w (sub_GWz w hw)) Cz_7.2.2.1 (hts (.instantiable "ChoiceTongue$Parse\x72" 9) (sub_2 (List.mem_of_getElem? (i := 51) rfl)))
    exact ⟨(c, iS), fun q hq => by
      have e : some ("ChoiceTongue$Parse\x72", Tz_7, 9) = some q := hq
      cases e
      exact h⟩
  | 8 => by
    obtain ⟨c, iS, h⟩ := u_known (C := "ChoiceTongue$Path") (T := Tz_8) (N := 25) (n := 25) (fun w hw => hts w (sub_GWz w hw)) Cz_8.2.2.1 (hts (.instantiable "ChoiceTongue$Path" 25) (sub_3 (List.mem_of_getElem? (i := 82) rfl)))
    exact ⟨(c, iS), fun q hq => by
      have e : some ("ChoiceTongue$Path", Tz_8, 25) = some q := hq
      cases e
      exact h⟩
  | 9 => by
    obtain ⟨c, iS, h⟩ := u_known (C := "ChoiceTongue$Primitives") (T := Tz_9) (N := 14) (n := 14) (fun w hw => hts w (sub_GWz w hw)) Cz_9.2.2.1 (hts (.instantiable "ChoiceTongue$Primitives" 14) (sub_3 (List.mem_of_getElem? (i := 210) rfl)))
    exact ⟨(c, iS), fun q hq => by
      have e : some ("ChoiceTongue$Primitives", Tz_9, 14) = some q := hq
      cases e
      exact h⟩
  | 10 => by
    obtain ⟨c, iS, h⟩ := u_known (C := "ChoiceTongue$Search") (T := Tz_10) (N := 23) (n := 23) (fun w hw => hts w (sub_GWz w hw)) Cz_10.2.2.1 (hts (.instantiable "ChoiceTongue$Search" 23) (sub_3 (List.mem_of_getElem? (i := 67) rfl)))
    exact ⟨(c, iS), fun q hq => by
      have e : some ("ChoiceTongue$Search", Tz_10, 23) = some q := hq
      cases e
      exact h⟩
  | 11 => by
    obtain ⟨c, iS, h⟩ := u_known (C := "ChoiceTongue$Steps") (T := Tz_11) (N := 6) (n := 6) (fun w hw => hts w (sub_GWz w hw)) Cz_11.2.2.1 (hts (.instantiable "ChoiceTongue$Steps" 6) (sub_4 (List.mem_of_getElem? (i := 23) rfl)))
    exact ⟨(c, iS), fun q hq => by
      have e : some ("ChoiceTongue$Steps", Tz_11, 6) = some q := hq
      cases e
      exact h⟩
  | 12 => by
    obtain ⟨c, iS, h⟩ := u_known (C := "ChoiceTongue$Tables") (T := Tz_12) (N := 24) (n := 24) (fun w hw => hts w (sub_GWz w hw)) Cz_12.2.2.1 (hts (.instantiable "ChoiceTongue$Tables" 24) (sub_1 (List.mem_of_getElem? (i := 164) rfl)))
    exact ⟨(c, iS), fun q hq => by
      have e : some ("ChoiceTongue$Tables", Tz_12, 24) = some q := hq
      cases e
      exact h⟩
  | 13 => by
    obtain ⟨c, iS, h⟩ := u_known (C := "ChoiceTongue$Trees") (T := Tz_13) (N := 19) (n := 19) (fun w hw => hts w (sub_GWz w hw)) Cz_13.2.2.1 (hts (.instantiable "ChoiceTongue$Trees" 19) (sub_2 (List.mem_of_getElem? (i := 189) rfl)))
    exact ⟨(c, iS), fun q hq => by
      have e : some ("ChoiceTongue$Trees", Tz_13, 19) = some q := hq
      cases e
      exact h⟩
  | 14 => by
    obtain ⟨c, iS, h⟩ := u_known (C := "ChoiceTongueModel") (T := Tz_14) (N := 235) (n := 235) (fun w hw => hts w (sub_GWz w hw)) Cz_14.2.2.1 (hts (.instantiable "ChoiceTongueModel" 235) (sub_13 (List.mem_of_getElem? (i := 208) rfl)))
    exact ⟨(c, iS), fun q hq => by
      have e : some ("ChoiceTongueModel", Tz_14, 235) = some q := hq
      cases e
      exact h⟩
  | k + 15 => ⟨(0, fun _ => 0), fun q hq => by
    have e : (none : Option vw_C) = some q := hq
    cases e⟩
theorem l_ground {p : Program} {s : State} {m : MethodId} {meth : Method} {c : Code} {b L : Nat} {xs : Nat → Int32} (C0 : lw_At p s m meth c b L xs) : ∃ (Dg : va_G) (cA adS : Nat → Nat), lX p s m meth c b Dg cA adS := by
  obtain ⟨hx, hb, hr, hml, hown, hts, hX, hbl, hlocks, hgv⟩ := C0
  have hA : ∀ a : Nat, a < s.heap.size → ¬ (fun q => s.heap.size ≤ q) a := fun a ha => Nat.not_le.mpr ha
  have hgf := flat_of_before _ hgv
  obtain ⟨f, hf⟩ := Classical.axiomOfChoice (l_known hts)
  obtain ⟨c0, a0, n0⟩ := l_arr (hts (.arrayClass .int) (sub_1 (List.mem_of_getElem? (i := 83) rfl)))
  obtain ⟨c1, a1, n1⟩ := l_arr (hts (.arrayClass .byte) (sub_1 (List.mem_of_getElem? (i := 82) rfl)))
  obtain ⟨c2, a2, n2⟩ := l_arr (hts (.arrayClass .boolean) (sub_2 (List.mem_of_getElem? (i := 49) rfl)))
  obtain ⟨c3, a3, n3⟩ := l_arr (hts (.arrayClass .long) (sub_1 (List.mem_of_getElem? (i := 84) rfl)))
  obtain ⟨c4, a4, n4⟩ := l_arr2 (hts (.arrayOver (.array .int)) (sub_3 (List.mem_of_getElem? (i := 73) rfl)))
  obtain ⟨g, hg⟩ := Classical.axiomOfChoice (st_all (A := fun q => s.heap.size ≤ q) hA hgf)
  have e1 : ∀ j, j < 12 → (fun k => if k < 100 then (g k).1 else (g (k - 100)).2) j = (g j).1 := fun j hj => if_pos (by omega)
  have e2 : ∀ j, j < 12 → (fun k => if k < 100 then (g k).1 else (g (k - 100)).2) (100 + j) = (g j).2 := fun j hj => by
    show (if 100 + j < 100 then (g (100 + j)).1 else (g (100 + j - 100)).2) = _
    rw [if_neg (by omega), Nat.add_sub_cancel_left]
  refine ⟨(fun k => (f k).1, fun k => (f k).2), fun k => [c0, c1, c2, c3, c4].getD k 0, fun k => if k < 100 then (g k).1 else (g (k - 100)).2, hx, hb, hml, hown, hts, ⟨fun k q hq => hf k q hq, fun k q hq => ?_⟩, ⟨fun j hj => ?_, ?_, ?_, fun own index y host hm => ?_, ?_, fun own index j tx hm => ?_, ?_⟩, hlocks, hr⟩
  · match k, hq with
    | 0, hq =>
      have e : some (c0, FieldType.int) = some q := hq
      cases e
      exact ⟨a0, n0⟩
    | 1, hq =>
      have e : some (c1, FieldType.byte) = some q := hq
      cases e
      exact ⟨a1, n1⟩
    | 2, hq =>
      have e : some (c2, FieldType.boolean) = some q := hq
      cases e
      exact ⟨a2, n2⟩
    | 3, hq =>
      have e : some (c3, FieldType.long) = some q := hq
      cases e
      exact ⟨a3, n3⟩
    | 4, hq =>
      have e : some (c4, FieldType.array .int) = some q := hq
      cases e
      exact ⟨a4, n4⟩
    | k + 5, hq =>
      have e : (none : Option (ClassId × FieldType)) = some q := hq
      cases e
  · have h := hg j hj
    rw [e1 j hj, e2 j hj]
    exact ⟨h.2.1, h.2.2.1, h.2.2.2.1, h.2.2.2.2⟩
  · exact va_Zqof (hts (.laysStatic "jdk/internal/util/Preconditions" "SIOOBE_FORMATTER" "Ljava/util/function/BiFunction;") (sub_4 (List.mem_of_getElem? (i := 221) rfl))) (hts (.initialized "jdk/internal/util/Preconditions") (sub_1 (List.mem_of_getElem? (i := 18) rfl))) (hgf _ (by decide +kernel)) hA
  · exact va_Zof (hts (.laysStatic "java/lang/String" "COMPACT_STRINGS" "Z") (sub_4 (List.mem_of_getElem? (i := 202) rfl))) (hts (.initialized "java/lang/String") (sub_1 (List.mem_of_getElem? (i := 15) rfl))) (va_eqi (hgf _ (by decide +kernel))) hA
  · simp only [NWz, List.mem_cons, List.not_mem_nil, or_false, Prod.mk.injEq] at hm
    rcases hm with ⟨rfl, rfl, rfl, rfl⟩ | ⟨rfl, rfl, rfl, rfl⟩ | ⟨rfl, rfl, rfl, rfl⟩
    · exact va_Nw.of rfl (hts _ (sub_1 (List.mem_of_getElem? (i := 45) rfl)))
    · exact va_Nw.of rfl (hts _ (sub_1 (List.mem_of_getElem? (i := 87) rfl)))
    · exact va_Nw.of rfl (hts _ (sub_3 (List.mem_of_getElem? (i := 83) rfl)))
  · exact over_moved (Vm.Alike.refl s.vm) (hts _ (sub_3 (List.mem_of_getElem? (i := 73) rfl)))
  · simp only [SRz, List.mem_cons, List.not_mem_nil, or_false, Prod.mk.injEq] at hm
    rcases hm with ⟨rfl, rfl, rfl, rfl⟩ | ⟨rfl, rfl, rfl, rfl⟩ | ⟨rfl, rfl, rfl, rfl⟩ | ⟨rfl, rfl, rfl, rfl⟩ | ⟨rfl, rfl, rfl, rfl⟩ | ⟨rfl, rfl, rfl, rfl⟩ | ⟨rfl, rfl, rfl, rfl⟩ | ⟨rfl, rfl, rfl, rfl⟩ | ⟨rfl, rfl, rfl, rfl⟩ | ⟨rfl, rfl, rfl, rfl⟩ | ⟨rfl, rfl, rfl, rfl⟩ | ⟨rfl, rfl, rfl, rfl⟩
    · exact vk_R.of (hts _ sw_0) (hg 0 (by decide)).1
    · exact vk_R.of (hts _ sw_1) (hg 1 (by decide)).1
    · exact vk_R.of (hts _ sw_3) (hg 3 (by decide)).1
    · exact vk_R.of (hts _ sw_2) (hg 2 (by decide)).1
    · exact vk_R.of (hts _ sw_7) (hg 7 (by decide)).1
    · exact vk_R.of (hts _ sw_8) (hg 8 (by decide)).1
    · exact vk_R.of (hts _ sw_11) (hg 11 (by decide)).1
    · exact vk_R.of (hts _ sw_10) (hg 10 (by decide)).1
    · exact vk_R.of (hts _ sw_9) (hg 9 (by decide)).1
    · exact vk_R.of (hts _ sw_4) (hg 4 (by decide)).1
    · exact vk_R.of (hts _ sw_5) (hg 5 (by decide)).1
    · exact vk_R.of (hts _ sw_6) (hg 6 (by decide)).1
  · exact ⟨vx_Zqof (hts (.laysStatic "java/lang/Throwable" "UNASSIGNED_STACK" "[Ljava/lang/StackTraceElement;") (sub_5 (List.mem_of_getElem? (i := 197) rfl))) (hts (.initialized "java/lang/Throwable") (sub_1 (List.mem_of_getElem? (i := 23) rfl))) (hgf _ (by decide +kernel)) hA, vx_Zqof (hts (.laysStatic "java/lang/Throwable" "SUPPRESSED_SENTINEL" "Ljava/util/List;") (sub_5 (List.mem_of_getElem? (i := 199) rfl))) (hts (.initialized "java/lang/Throwable") (sub_1 (List.mem_of_getElem? (i := 23) rfl))) (hgf _ (by decide +kernel)) hA, fun w hw => va_Nw.of (xBad_on hw) (hts w (bad_in w hw))⟩

/-! Both systems are made: by a program (wip/p1/genlaw2.py). -/
section LAW2
variable {p : Program} {l : Launch} {e : Env} {s : State} {m : MethodId} {below : List Frame} {meth : Method} {c : Code} {b : Nat}
variable {Dg : va_G} {cA adS : Nat → Nat} {H : Heap} {locs : List Loc} {cells slots : Nat} {Q : State → Prop} {ls : Array Slot} {lv : List (Nat × Value)} {rest : List Value} {pc n : Nat} {h h' : xBT xC 9}
/-- a new row of one long number in the law -/
theorem l_newj (hX : lX p s m meth c b Dg cA adS) (hN : lNow Dg cA adS s h n H locs) (hl : lv_has ls 7 lv) (hn : n < 506) (hg : xgap h = 0) (hd : decode code pc = .ok (.newarray .long, 2)) (hf : cells + 1 ≤ room_1.cells ∧ slots + 1 ≤ room_1.slots)
    (kk : ∀ H1 : Heap, lNow Dg cA adS s (xset 9 h n (3, (1, 0))) (n + 1) H1 locs → W p l e room_1 s m #[Value.ref b] below meth c H1 locs (cells + 1) (slots + 1) Q (F0 m (pc + 2) ls (.ref (xad s.heap.size adS n) :: rest))) :
    W p l e room_1 s m #[Value.ref b] below meth c H locs cells slots Q (F0 m pc ls (.int (nI 1) :: rest)) := by
  have x8 := hX.2.2.2.2.1
  refine va_newaK (atype := .long) (n := nI 1) (N := 1) (h := H.size) hX.1 hX.2.1 (x8 _ (sub_1 (List.mem_of_getElem? (i := 84) rfl))) rfl hd rfl (by decide) (by decide) (by decide) hf.1 hf.2 rfl fun H1 cB e1 z1 o1 hAr hNm => ?_
  have hcB : cB = cA 3 := by
    have h9 : s.vm.findClass ("[" ++ (FieldType.long).toString) = some (cA 3) := (hX.2.2.2.2.2.1.2 3 _ rfl).2
    exact Option.some.inj (hNm.symm.trans h9)
  subst hcB
  have N2 := (hN.x hl).push (c1 := (3, (1, 0))) hd9z (by omega) hg (show H1[H.size]? = some (vp_cell _ _) by
    rw [e1, vp_cell_l]
    refine congrArg (fun z => some (arrV (cA 3) 1 z)) (funext fun y => ?_)
    show Value.long 0 = .long (lN (xd8 0 y))
    rw [xd8_0 (by decide)]
    rfl) z1 o1
  have hw2 := kk H1 (lNow.of N2)
  have n9 : H.size = s.heap.size + n := by rw [hN.1, hg, Nat.add_zero]
  rw [xad_in (by omega), ← n9] at hw2
  exact hw2
theorem law_begin (hX : lX p s m meth c b Dg cA adS) (hl : lv_has ls 7 [(0, .ref b)])
    (kk : ∀ (H : Heap) (locs : List Loc) (ls : Array Slot), lNow Dg cA adS s HZ 255 H locs → lv_has ls 7 [(4, .int 0), (3, .ref (xad s.heap.size adS 254)), (2, .ref (xad s.heap.size adS 113)), (1, .ref (xad s.heap.size adS 0)), (0, .ref b)] → W p l e room_1 s m #[Value.ref b] below meth c H locs 255 4933378 Q (F0 m 23 ls [])) :
    W p l e room_1 s m #[Value.ref b] below meth c s.heap [] 0 0 Q (F0 m 0 ls []) := by
  have hx := hX.1
  have hb := hX.2.1
  have hN0 : lNow Dg cA adS s (Prod.fst Szx_0) 0 s.heap [] := ⟨by rw [show xgap (Prod.fst Szx_0) = 0 by decide +kernel]; rfl, by decide, fun k q hq => by simp [xws] at hq, va_S.rf⟩
  refine l_new hX hN0 hl Cz_0 Fz_0 ⟨(sub_1 (List.mem_of_getElem? (i := 35) rfl)), (sub_1 (List.mem_of_getElem? (i := 36) rfl)), (sub_1 (List.mem_of_getElem? (i := 1) rfl))⟩ (by decide) (by decide +kernel) d_law_0 ⟨by decide +kernel, by decide +kernel⟩ fun H1 N1 => ?_
  have i1 : xset 9 (Prod.fst Szx_0) 0 (0 + 8, (0, 0)) = Prod.fst Szx_0 := xeH_s 9 _ _ (by decide +kernel)
  rw [i1] at N1
  refine lv_dup hx hb d_law_3 rfl ?_
  refine l_calli hX N1 hl (o := 0) (con_zx hyZ) ⟨⟨(sub_1 (List.mem_of_getElem? (i := 37) rfl)), (sub_1 (List.mem_of_getElem? (i := 1) rfl)), (sub_1 (List.mem_of_getElem? (i := 39) rfl)), (sub_1 (List.mem_of_getElem? (i := 38) rfl))⟩, ⟨by decide +kernel, by decide +kernel⟩, by decide +kernel, by decide +kernel⟩ (by decide +kernel) (by decide) (by show 1 ≤ 8; decide) d_law_4 ⟨by decide +kernel, by decide +kernel⟩ fun H2 locs2 N2 => ?_
  refine lv_astore_n (lv' := [(1, .ref (xad s.heap.size adS 0)), (0, .ref b)]) hx hb d_law_7 rfl hl (by decide) rfl (fun ls hl => ?_)
  refine l_new hX N2 hl Cz_14 Fz_14 ⟨(sub_13 (List.mem_of_getElem? (i := 207) rfl)), (sub_13 (List.mem_of_getElem? (i := 208) rfl)), (sub_1 (List.mem_of_getElem? (i := 33) rfl))⟩ (by decide) (by decide +kernel) d_law_8 ⟨by decide +kernel, by decide +kernel⟩ fun H3 N3 => ?_
  have i3 : xset 9 (Prod.fst (Prod.snd FINzx)) 113 (14 + 8, (0, 0)) = Prod.fst Szm_0 := xeH_s 9 _ _ (by decide +kernel)
  rw [i3] at N3
  refine lv_dup hx hb d_law_11 rfl ?_
  refine l_calli hX N3 hl (o := 113) (con_zm hyZ) ⟨⟨(sub_13 (List.mem_of_getElem? (i := 209) rfl)), (sub_1 (List.mem_of_getElem? (i := 33) rfl)), (sub_13 (List.mem_of_getElem? (i := 211) rfl)), (sub_13 (List.mem_of_getElem? (i := 210) rfl))⟩, ⟨by decide +kernel, by decide +kernel⟩, by decide +kernel, by decide +kernel⟩ (by decide +kernel) (by decide) (by show 1 ≤ 8; decide) d_law_12 ⟨by decide +kernel, by decide +kernel⟩ fun H4 locs4 N4 => ?_
  refine lv_astore_n (lv' := [(2, .ref (xad s.heap.size adS 113)), (1, .ref (xad s.heap.size adS 0)), (0, .ref b)]) hx hb d_law_15 rfl hl (by decide) rfl (fun ls hl => ?_)
  refine lv_iconst (v := nI 1) hx hb d_law_16 (by decide) ?_
  refine l_newj hX N4 hl (by decide) (by decide +kernel) d_law_17 ⟨by decide +kernel, by decide +kernel⟩ fun H5 N5 => ?_
  have i5 : xset 9 (Prod.fst (Prod.snd FINzm)) 254 (3, (1, 0)) = HZ := xeH_s 9 _ _ (by decide +kernel)
  rw [i5] at N5
  refine lv_astore_n (lv' := [(3, .ref (xad s.heap.size adS 254)), (2, .ref (xad s.heap.size adS 113)), (1, .ref (xad s.heap.size adS 0)), (0, .ref b)]) hx hb d_law_19 rfl hl (by decide) rfl (fun ls hl => ?_)
  refine lv_iconst (v := 0) hx hb d_law_20 (by decide) ?_
  refine lv_istore (lv' := [(4, .int 0), (3, .ref (xad s.heap.size adS 254)), (2, .ref (xad s.heap.size adS 113)), (1, .ref (xad s.heap.size adS 0)), (0, .ref b)]) hx hb d_law_21 hl (by decide) rfl (fun ls hl => ?_)
  exact kk H5 _ ls N5 hl
end LAW2

/-! A script of one call: the loop, its end; the calls without arguments: by a program (wip/p1/genlaw3.py). -/
section LAW3
variable {p : Program} {l : Launch} {e : Env} {s : State} {m : MethodId} {below : List Frame} {meth : Method} {c : Code} {b L : Nat} {xs : Nat → Int32}
variable {Dg : va_G} {cA adS : Nat → Nat} {H : Heap} {locs : List Loc} {cells slots : Nat} {ls : Array Slot} {h : xBT xC 9} {n : Nat}
/-- the script is at its end -/
theorem law_out (hX : lX p s m meth c b Dg cA adS) (hXs : va_X b L xs s s.heap) (hbl : b < s.heap.size) (hS : va_S (fun q => s.heap.size ≤ q) s.heap H locs) {x : Int32} (hl : lv_has ls 7 [(4, .int x), (0, .ref b)]) (hgt : Int32.ofNat L - 6 < x) (hc : cells ≤ 157288) (hs : slots ≤ 8630374) :
    W p l e room_1 s m #[Value.ref b] below meth c H locs cells slots (lw_Z below #[Value.ref b] s) (F0 m 23 ls []) := by
  have hx := hX.1
  have hb := hX.2.1
  have hbA : ¬ (fun q => s.heap.size ≤ q) b := Nat.not_le.mpr hbl
  refine lv_iload hx hb d_law_23 (lv_at hl 0 rfl) ?_
  refine lv_aload_n hx hb d_law_25 rfl (lv_at hl 1 rfl) ?_
  refine va_slen hx hb hXs hbl hbA hS d_law_26 ?_
  refine lv_bipush (v := 6) hx hb d_law_27 (by decide) ?_
  refine lv_isub hx hb d_law_29 ?_
  refine lv_icmp_gt (tgt := 553) hx hb d_law_30 (by decide) (fun _ => ?_) (fun z => absurd hgt z)
  refine lv_iconst (v := 1) hx hb d_law_553 (by decide) ?_
  refine va_forget (fun q hq => hS.2.2 q hq) ?_
  refine W.widen (k := 157288) (n := 8630374) hc hs ?_
  exact lw_ret hx hb hX.2.2.2.2.2.2.2.2 hX.2.2.2.2.2.2.2.1 d_law_554
theorem l_len (hL : L < 12) : Int32.ofNat L - 6 < 6 := by
  rcases (show L = 0 ∨ L = 1 ∨ L = 2 ∨ L = 3 ∨ L = 4 ∨ L = 5 ∨ L = 6 ∨ L = 7 ∨ L = 8 ∨ L = 9 ∨ L = 10 ∨ L = 11 by omega) with z | z | z | z | z | z | z | z | z | z | z | z <;> (rw [z]; decide)
theorem l_len0 (hL : L < 6) : Int32.ofNat L - 6 < 0 := by
  rcases (show L = 0 ∨ L = 1 ∨ L = 2 ∨ L = 3 ∨ L = 4 ∨ L = 5 by omega) with z | z | z | z | z | z <;> (rw [z]; decide)
theorem l_len6 (h6 : 6 ≤ L) (hL : L < 12) : ¬ Int32.ofNat L - 6 < 0 := by
  rcases (show L = 6 ∨ L = 7 ∨ L = 8 ∨ L = 9 ∨ L = 10 ∨ L = 11 by omega) with z | z | z | z | z | z <;> (rw [z]; decide)
/-- behind the one call -/
theorem law_tail (hX : lX p s m meth c b Dg cA adS) (hXs : va_X b L xs s s.heap) (hbl : b < s.heap.size) (hL : L < 12) (hS : va_S (fun q => s.heap.size ≤ q) s.heap H locs) (hl : lv_has ls 7 [(4, .int 0), (0, .ref b)]) (hc : cells ≤ 157288) (hs : slots ≤ 8630374) :
    W p l e room_1 s m #[Value.ref b] below meth c H locs cells slots (lw_Z below #[Value.ref b] s) (F0 m 547 ls []) := by
  have hx := hX.1
  have hb := hX.2.1
  refine lv_iinc (k := 0) (v := 6) (lv' := [(4, .int 6), (0, .ref b)]) hx hb d_law_547 hl rfl (by decide) (by decide) rfl (fun ls hl => ?_)
  refine lv_goto (tgt := 23) hx hb d_law_550 (by decide) ?_
  exact law_out hX hXs hbl hS hl (l_len hL) hc hs
/-- a call is asked for: which -/
theorem law_in (hX : lX p s m meth c b Dg cA adS) (hXs : va_X b L xs s s.heap) (hbl : b < s.heap.size) (h6 : 6 ≤ L) (hL : L < 12) (hS : va_S (fun q => s.heap.size ≤ q) s.heap H locs) (hl : lv_has ls 7 [(4, .int 0), (0, .ref b)]) {Q : State → Prop}
    (kk : W p l e room_1 s m #[Value.ref b] below meth c H locs cells slots Q (F0 m 40 ls [.int (xs 0 &&& 15)])) :
    W p l e room_1 s m #[Value.ref b] below meth c H locs cells slots Q (F0 m 23 ls []) := by
  have hx := hX.1
  have hb := hX.2.1
  have hbA : ¬ (fun q => s.heap.size ≤ q) b := Nat.not_le.mpr hbl
  refine lv_iload hx hb d_law_23 (lv_at hl 0 rfl) ?_
  refine lv_aload_n hx hb d_law_25 rfl (lv_at hl 1 rfl) ?_
  refine va_slen hx hb hXs hbl hbA hS d_law_26 ?_
  refine lv_bipush (v := 6) hx hb d_law_27 (by decide) ?_
  refine lv_isub hx hb d_law_29 ?_
  refine lv_icmp_gt (tgt := 553) hx hb d_law_30 (by decide) (fun z => absurd z (l_len6 h6 hL)) (fun _ => ?_)
  refine lv_aload_n hx hb d_law_33 rfl (lv_at hl 1 rfl) ?_
  refine lv_iload hx hb d_law_34 (lv_at hl 0 rfl) ?_
  refine va_sld hx hb hXs hbl hbA hS (i := 0) (by rw [← nI_0]; exact xn_in (by decide) (by omega)) d_law_36 ?_
  refine lv_bipush (v := 15) hx hb d_law_37 (by decide) ?_
  refine lv_iand hx hb d_law_39 ?_
  exact kk
theorem l_op (x : Int32) : ∃ k, k < 16 ∧ x &&& 15 = nI k := by
  have hx : x = nI x.toBitVec.toNat := by
    apply Int32.toBitVec_inj.mp
    show x.toBitVec = BitVec.ofNat 32 x.toBitVec.toNat
    simp
  refine ⟨Nat.land x.toBitVec.toNat 15, ?_, ?_⟩
  · have h1 : Nat.land x.toBitVec.toNat 15 = x.toBitVec.toNat % 16 := Nat.and_two_pow_sub_one_eq_mod x.toBitVec.toNat 4
    rw [h1]
    exact Nat.mod_lt _ (by decide)
  · have h2 : x &&& 15 = nI x.toBitVec.toNat &&& nI 15 := by rw [← hx]; rfl
    rw [h2, xn_and]
theorem law_module (hX : lX p s m meth c b Dg cA adS) (hXs : va_X b L xs s s.heap) (hbl : b < s.heap.size) (hL : L < 12) (hN : lNow Dg cA adS s HZ 255 H locs) (hl : lv_has ls 7 [(4, .int 0), (3, .ref (xad s.heap.size adS 254)), (2, .ref (xad s.heap.size adS 113)), (1, .ref (xad s.heap.size adS 0)), (0, .ref b)]) : W p l e room_1 s m #[Value.ref b] below meth c H locs 255 4933378 (lw_Z below #[Value.ref b] s) (F0 m 198 ls []) := by
  have hx := hX.1
  have hb := hX.2.1
  have j1 : HZ = Prod.fst Szu_0 := xeH_s 9 _ _ (by decide +kernel)
  rw [j1] at hN
  refine lv_aload_n hx hb d_law_198 rfl (lv_at hl 3 rfl) ?_
  refine l_callv hX hN hl (o := 0) (As := []) (con_zu hyZ) ⟨⟨(sub_9 (List.mem_of_getElem? (i := 168) rfl)), (sub_1 (List.mem_of_getElem? (i := 1) rfl)), (sub_9 (List.mem_of_getElem? (i := 171) rfl)), (sub_9 (List.mem_of_getElem? (i := 169) rfl))⟩, ⟨by decide +kernel, by decide +kernel⟩, by decide +kernel, by decide +kernel⟩ (sub_9 (List.mem_of_getElem? (i := 170) rfl)) (ci := 0) rfl (by decide) (by decide +kernel) rfl (by decide) (by show 0 ≤ 8; decide) d_law_199 ⟨by show _ ≤ _; exact Nat.le_of_ble_eq_true rfl, by show _ ≤ _; exact Nat.le_of_ble_eq_true rfl⟩ fun H1 locs1 N1 => ?_
  have j2 : Prod.fst (Prod.snd FINzu) = Prod.fst Szv_0 := xeH_s 9 _ _ (by decide +kernel)
  rw [j2] at N1
  refine lv_aload_n hx hb d_law_202 rfl (lv_at hl 2 rfl) ?_
  refine l_callv hX N1 hl (o := 113) (As := []) (con_zv hyZ) ⟨⟨(sub_19 (List.mem_of_getElem? (i := 55) rfl)), (sub_1 (List.mem_of_getElem? (i := 33) rfl)), (sub_19 (List.mem_of_getElem? (i := 58) rfl)), (sub_19 (List.mem_of_getElem? (i := 56) rfl))⟩, ⟨by decide +kernel, by decide +kernel⟩, by decide +kernel, by decide +kernel⟩ (sub_19 (List.mem_of_getElem? (i := 57) rfl)) (ci := 14) rfl (by decide) (by decide +kernel) rfl (by decide) (by show 1 ≤ 8; decide) d_law_203 ⟨by show _ ≤ _; exact Nat.le_of_ble_eq_true rfl, by show _ ≤ _; exact Nat.le_of_ble_eq_true rfl⟩ fun H2 locs2 N2 => ?_
  exact lv_icmp_eq (tgt := 547) hx hb d_law_206 (by decide) (fun _ => law_tail hX hXs hbl hL N2.2.2.2 (lv_sub hl [0, 4] rfl) (Nat.le_of_ble_eq_true rfl) (Nat.le_of_ble_eq_true rfl)) (fun z => absurd rfl z)
end LAW3

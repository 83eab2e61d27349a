/-! Runs over numbers that are not known: an instruction, a row. -/
theorem xlg_eq {R : Type} : ∀ {i : Nat} {ls : List xO} {v : xV} {k : xV → Option R}, ls[i]? = some (some v) → xlg i ls k = k v
  | 0, [], _, _, h => by cases h
  | 0, none :: _, _, _, h => by cases h
  | 0, some w :: _, v, k, h => by
    have e : some (some w) = some (some v) := h
    cases e
    rfl
  | i + 1, [], _, _, h => by cases h
  | i + 1, _ :: t, v, k, h => xlg_eq (i := i) (ls := t) h
theorem xlp_eq {R : Type} : ∀ {i : Nat} {ls : List xO} {v : xV} {k : List xO → Option R}, i < ls.length → xlp i ls v k = k (ls.set i (some v))
  | 0, [], _, _, h => absurd h (Nat.not_lt_zero _)
  | 0, _ :: _, _, _, _ => rfl
  | i + 1, [], _, _, h => absurd h (Nat.not_lt_zero _)
  | i + 1, a :: t, v, k, h => xlp_eq (i := i) (ls := t) (v := v) (k := fun t' => k (a :: t')) (Nat.lt_of_succ_lt_succ h)
section TRACE
variable {d : Nat} {fin : xE d} {k j : xK d} {h : xBT xC d} {c : Nat × Nat} {ls : List xO} {st : List xV}
theorem r_iload {i n : Nat} (h1 : ls[i]? = some (some (.inl n))) (hk : k h c ls (.inl n :: st) = some fin) : h_iload i k h c ls st = some fin := by
  show xlg i ls (fun v => xint v (fun _ => k h c ls (v :: st))) = some fin
  rw [xlg_eq h1]
  exact hk
theorem r_aload {i n : Nat} (h1 : ls[i]? = some (some (.inr (.inr (n + 1))))) (hk : k h c ls (.inr (.inr (n + 1)) :: st) = some fin) : h_aload i k h c ls st = some fin := by
  show xlg i ls (fun v => xobj v (fun _ => k h c ls (v :: st))) = some fin
  rw [xlg_eq h1]
  exact hk
theorem r_istore {i n : Nat} {ls' : List xO} (h1 : i < ls.length) (h2 : ls.set i (some (.inl n)) = ls') (hk : k h c ls' st = some fin) : h_istore i k h c ls (.inl n :: st) = some fin := by
  subst h2
  show xlp i ls (.inl n) (fun ls => k h c ls st) = some fin
  rw [xlp_eq h1]
  exact hk
theorem r_astore {i n : Nat} {ls' : List xO} (h1 : i < ls.length) (h2 : ls.set i (some (.inr (.inr (n + 1)))) = ls') (hk : k h c ls' st = some fin) : h_astore i k h c ls (.inr (.inr (n + 1)) :: st) = some fin := by
  subst h2
  show xlp i ls (.inr (.inr (n + 1))) (fun ls => k h c ls st) = some fin
  rw [xlp_eq h1]
  exact hk
theorem r_iinc {i a n v : Nat} {ls' : List xO} (h1 : ls[i]? = some (some (.inl n))) (hv : Nat.mod (Nat.add n a) 4294967296 = v) (h3 : i < ls.length) (h2 : ls.set i (some (.inl v)) = ls') (hk : k h c ls' st = some fin) : h_iinc i a k h c ls st = some fin := by
  subst h2
  subst hv
  show xlg i ls (fun v => xint v (fun n => xst (Nat.mod (Nat.add n a) 4294967296) (fun m => xlp i ls (Sum.inl m) (fun ls => k h c ls st)))) = some fin
  rw [xlg_eq h1]
  show xst (Nat.mod (Nat.add n a) 4294967296) (fun m => xlp i ls (Sum.inl m) (fun ls => k h c ls st)) = some fin
  rw [xst_eq, xlp_eq h3]
  exact hk
theorem r_bin {f : Nat → Nat → Nat} {a b v : Nat} (hv : f a b = v) (hk : k h c ls (.inl v :: st) = some fin) : h_bin f k h c ls (.inl b :: .inl a :: st) = some fin := by
  subst hv
  show xst (f a b) (fun m => k h c ls (Sum.inl m :: st)) = some fin
  rw [xst_eq]
  exact hk
theorem r_un {f : Nat → Nat} {a v : Nat} (hv : f a = v) (hk : k h c ls (.inl v :: st) = some fin) : h_un f k h c ls (.inl a :: st) = some fin := by
  subst hv
  show xst (f a) (fun m => k h c ls (Sum.inl m :: st)) = some fin
  rw [xst_eq]
  exact hk
theorem r_if1 {t : Nat → Bool} {a : Nat} (ht : t a = true) (hk : j h c ls st = some fin) : h_if1 t j k h c ls (.inl a :: st) = some fin := by
  show xif (t a) (j h c ls st) (k h c ls st) = some fin
  rw [ht]
  exact hk
theorem r_if0 {t : Nat → Bool} {a : Nat} (ht : t a = false) (hk : k h c ls st = some fin) : h_if1 t j k h c ls (.inl a :: st) = some fin := by
  show xif (t a) (j h c ls st) (k h c ls st) = some fin
  rw [ht]
  exact hk
theorem r_if21 {t : Nat → Nat → Bool} {a b : Nat} (ht : t a b = true) (hk : j h c ls st = some fin) : h_if2 t j k h c ls (.inl b :: .inl a :: st) = some fin := by
  show xif (t a b) (j h c ls st) (k h c ls st) = some fin
  rw [ht]
  exact hk
theorem r_if20 {t : Nat → Nat → Bool} {a b : Nat} (ht : t a b = false) (hk : k h c ls st = some fin) : h_if2 t j k h c ls (.inl b :: .inl a :: st) = some fin := by
  show xif (t a b) (j h c ls st) (k h c ls st) = some fin
  rw [ht]
  exact hk
theorem r_geti {kc q o : Nat} {A v : Nat} (ho : Nat.blt o (Prod.fst c) = true) (hx : xget d h o = (kc, (0, A))) (hv : xd8 A q = v) (hk : k h c ls (.inl v :: st) = some fin) : h_geti kc q k h c ls (.inr (.inr (o + 1)) :: st) = some fin := by
  subst hv
  show xck (Nat.blt o (Prod.fst c)) (xcls kc (xget d h o) (fun A => xst (xd8 A q) (fun m => k h c ls (Sum.inl m :: st)))) = some fin
  rw [ho, hx]
  show xck (Nat.beq kc kc) (xst (xd8 A q) (fun m => k h c ls (Sum.inl m :: st))) = some fin
  rw [Nat.beq_refl, xst_eq]
  exact hk
theorem r_getr {kc q o : Nat} {A v : Nat} (ho : Nat.blt o (Prod.fst c) = true) (hx : xget d h o = (kc, (0, A))) (hv : xd8 A q = v) (hk : k h c ls (.inr (.inr v) :: st) = some fin) : h_getr kc q k h c ls (.inr (.inr (o + 1)) :: st) = some fin := by
  subst hv
  show xck (Nat.blt o (Prod.fst c)) (xcls kc (xget d h o) (fun A => xst (xd8 A q) (fun m => k h c ls (Sum.inr (Sum.inr m) :: st)))) = some fin
  rw [ho, hx]
  show xck (Nat.beq kc kc) (xst (xd8 A q) (fun m => k h c ls (Sum.inr (Sum.inr m) :: st))) = some fin
  rw [Nat.beq_refl, xst_eq]
  exact hk
theorem r_puti {kc q o a : Nat} {A : Nat} (ho : Nat.blt o (Prod.fst c) = true) (hx : xget d h o = (kc, (0, A))) (hok : xok8 A = true) (hk : k (xset d h o (kc, (0, xs8 A q (Nat.mod a 4294967296)))) c ls st = some fin) : h_puti kc q k h c ls (.inl a :: .inr (.inr (o + 1)) :: st) = some fin := by
  show xck (Nat.blt o (Prod.fst c)) (xcls kc (xget d h o) (fun A => xck (xok8 A) (xst (xs8 A q (Nat.mod a 4294967296)) (fun B => xsetK d h o (kc, (0, B)) (fun h => k h c ls st))))) = some fin
  rw [ho, hx]
  show xck (Nat.beq kc kc) (xck (xok8 A) (xst (xs8 A q (Nat.mod a 4294967296)) (fun B => xsetK d h o (kc, (0, B)) (fun h => k h c ls st)))) = some fin
  rw [Nat.beq_refl, hok, xst_eq, xsetK_eq]
  exact hk
theorem r_ast {kc o i a : Nat} {f : Nat → Nat} {m A : Nat} (ho : Nat.blt o (Prod.fst c) = true) (hx : xget d h o = (kc, (m, A))) (hi : Nat.blt i m = true) (hi2 : Nat.blt i 2147483648 = true) (hok : xok4 A = true) (hk : k (xset d h o (kc, (m, xs4 A i (f a)))) c ls st = some fin) : h_ast kc f k h c ls (.inl a :: .inl i :: .inr (.inr (o + 1)) :: st) = some fin := by
  show xck (Nat.blt o (Prod.fst c)) (xrow kc (xget d h o) (fun m A => xck (Nat.blt i m) (xck (Nat.blt i 2147483648) (xck (xok4 A) (xst (xs4 A i (f a)) (fun B => xsetK d h o (kc, (m, B)) (fun h => k h c ls st))))))) = some fin
  rw [ho, hx]
  show xck (Nat.beq kc kc) (xck (Nat.blt i m) (xck (Nat.blt i 2147483648) (xck (xok4 A) (xst (xs4 A i (f a)) (fun B => xsetK d h o (kc, (m, B)) (fun h => k h c ls st)))))) = some fin
  rw [Nat.beq_refl, hi, hi2, hok, xst_eq, xsetK_eq]
  exact hk
end TRACE
/-- a run comes to an end of which P holds -/
def xLeads {d : Nat} (r : xR d) (P : xE d → Prop) : Prop := ∃ fin, r = some fin ∧ P fin
section TRACE2
variable {d : Nat} {P : xE d → Prop} {k j : xK d} {h : xBT xC d} {c : Nat × Nat} {ls : List xO} {st : List xV}
theorem R_iload {i n : Nat} (h1 : ls[i]? = some (some (.inl n))) (hk : xLeads (k h c ls (.inl n :: st)) P) : xLeads (h_iload i k h c ls st) P := by
  obtain ⟨f, a, b⟩ := hk
  exact ⟨f, r_iload h1 a, b⟩
theorem R_aload {i n : Nat} (h1 : ls[i]? = some (some (.inr (.inr (n + 1))))) (hk : xLeads (k h c ls (.inr (.inr (n + 1)) :: st)) P) : xLeads (h_aload i k h c ls st) P := by
  obtain ⟨f, a, b⟩ := hk
  exact ⟨f, r_aload h1 a, b⟩
theorem R_istore {i n : Nat} {ls' : List xO} (h1 : i < ls.length) (h2 : ls.set i (some (.inl n)) = ls') (hk : xLeads (k h c ls' st) P) : xLeads (h_istore i k h c ls (.inl n :: st)) P := by
  obtain ⟨f, a, b⟩ := hk
  exact ⟨f, r_istore h1 h2 a, b⟩
theorem R_astore {i n : Nat} {ls' : List xO} (h1 : i < ls.length) (h2 : ls.set i (some (.inr (.inr (n + 1)))) = ls') (hk : xLeads (k h c ls' st) P) : xLeads (h_astore i k h c ls (.inr (.inr (n + 1)) :: st)) P := by
  obtain ⟨f, a, b⟩ := hk
  exact ⟨f, r_astore h1 h2 a, b⟩
theorem R_iinc {i a n v : Nat} {ls' : List xO} (h1 : ls[i]? = some (some (.inl n))) (hv : Nat.mod (Nat.add n a) 4294967296 = v) (h3 : i < ls.length) (h2 : ls.set i (some (.inl v)) = ls') (hk : xLeads (k h c ls' st) P) : xLeads (h_iinc i a k h c ls st) P := by
  obtain ⟨f, a, b⟩ := hk
  exact ⟨f, r_iinc h1 hv h3 h2 a, b⟩
theorem R_bin {f : Nat → Nat → Nat} {a b v : Nat} (hv : f a b = v) (hk : xLeads (k h c ls (.inl v :: st)) P) : xLeads (h_bin f k h c ls (.inl b :: .inl a :: st)) P := by
  obtain ⟨f, a, b⟩ := hk
  exact ⟨f, r_bin hv a, b⟩
theorem R_un {f : Nat → Nat} {a v : Nat} (hv : f a = v) (hk : xLeads (k h c ls (.inl v :: st)) P) : xLeads (h_un f k h c ls (.inl a :: st)) P := by
  obtain ⟨f, a, b⟩ := hk
  exact ⟨f, r_un hv a, b⟩
theorem R_if1 {t : Nat → Bool} {a : Nat} (ht : t a = true) (hk : xLeads (j h c ls st) P) : xLeads (h_if1 t j k h c ls (.inl a :: st)) P := by
  obtain ⟨f, a, b⟩ := hk
  exact ⟨f, r_if1 ht a, b⟩
theorem R_if0 {t : Nat → Bool} {a : Nat} (ht : t a = false) (hk : xLeads (k h c ls st) P) : xLeads (h_if1 t j k h c ls (.inl a :: st)) P := by
  obtain ⟨f, a, b⟩ := hk
  exact ⟨f, r_if0 ht a, b⟩
theorem R_if21 {t : Nat → Nat → Bool} {a b : Nat} (ht : t a b = true) (hk : xLeads (j h c ls st) P) : xLeads (h_if2 t j k h c ls (.inl b :: .inl a :: st)) P := by
  obtain ⟨f, a, b⟩ := hk
  exact ⟨f, r_if21 ht a, b⟩
theorem R_if20 {t : Nat → Nat → Bool} {a b : Nat} (ht : t a b = false) (hk : xLeads (k h c ls st) P) : xLeads (h_if2 t j k h c ls (.inl b :: .inl a :: st)) P := by
  obtain ⟨f, a, b⟩ := hk
  exact ⟨f, r_if20 ht a, b⟩
theorem R_geti {kc q o : Nat} {A v : Nat} (ho : Nat.blt o (Prod.fst c) = true) (hx : xget d h o = (kc, (0, A))) (hv : xd8 A q = v) (hk : xLeads (k h c ls (.inl v :: st)) P) : xLeads (h_geti kc q k h c ls (.inr (.inr (o + 1)) :: st)) P := by
  obtain ⟨f, a, b⟩ := hk
  exact ⟨f, r_geti ho hx hv a, b⟩
theorem R_getr {kc q o : Nat} {A v : Nat} (ho : Nat.blt o (Prod.fst c) = true) (hx : xget d h o = (kc, (0, A))) (hv : xd8 A q = v) (hk : xLeads (k h c ls (.inr (.inr v) :: st)) P) : xLeads (h_getr kc q k h c ls (.inr (.inr (o + 1)) :: st)) P := by
  obtain ⟨f, a, b⟩ := hk
  exact ⟨f, r_getr ho hx hv a, b⟩
theorem R_puti {kc q o a : Nat} {A : Nat} (ho : Nat.blt o (Prod.fst c) = true) (hx : xget d h o = (kc, (0, A))) (hok : xok8 A = true) (hk : xLeads (k (xset d h o (kc, (0, xs8 A q (Nat.mod a 4294967296)))) c ls st) P) : xLeads (h_puti kc q k h c ls (.inl a :: .inr (.inr (o + 1)) :: st)) P := by
  obtain ⟨f, a, b⟩ := hk
  exact ⟨f, r_puti ho hx hok a, b⟩
theorem R_ast {kc o i a : Nat} {f : Nat → Nat} {m A : Nat} (ho : Nat.blt o (Prod.fst c) = true) (hx : xget d h o = (kc, (m, A))) (hi : Nat.blt i m = true) (hi2 : Nat.blt i 2147483648 = true) (hok : xok4 A = true) (hk : xLeads (k (xset d h o (kc, (m, xs4 A i (f a)))) c ls st) P) : xLeads (h_ast kc f k h c ls (.inl a :: .inl i :: .inr (.inr (o + 1)) :: st)) P := by
  obtain ⟨f, a, b⟩ := hk
  exact ⟨f, r_ast ho hx hi hi2 hok a, b⟩
end TRACE2
section TRACE3
variable {d e : Nat} {P : xE d → Prop} {k j : xK d} {h : xBT xC d} {c : Nat × Nat} {ls : List xO} {st : List xV} {ih : xS d → xR d} {fs : List xF} {dl : Nat}
theorem R_eq {a b : xR d} (hab : a = b) (hk : xLeads b P) : xLeads a P := by
  rw [hab]
  exact hk
theorem R_block {code : xBT (xB d) e} {n b : Nat} {t : xB d} (hb : xget e code b = t) (hk : xLeads (t dl fs (xrun code n) h c ls st) P) : xLeads (xrun code (n + 1) (h, (c, (dl, ((b, (ls, st)), fs))))) P := by
  rw [xrun_succ, hb]
  exact hk
theorem R_go {b : Nat} (hk : xLeads (ih (h, (c, (dl, ((b, (ls, st)), fs))))) P) : xLeads (xgo b dl fs ih h c ls st) P := hk
theorem R_iconst {n : Nat} (hk : xLeads (k h c ls (.inl n :: st)) P) : xLeads (h_iconst n k h c ls st) P := hk
theorem R_dup {v : xV} (hv : ∀ r : xR d, xcat1 v r = r) (hk : xLeads (k h c ls (v :: v :: st)) P) : xLeads (h_dup k h c ls (v :: st)) P := R_eq (hv _) hk
theorem R_divr {f : Nat → Nat → Nat} {a b v : Nat} (h1 : Nat.blt a 2147483648 = true) (h2 : Nat.blt b 2147483648 = true) (h3 : Nat.blt 0 b = true) (hv : f a b = v) (hk : xLeads (k h c ls (.inl v :: st)) P) : xLeads (h_divr f k h c ls (.inl b :: .inl a :: st)) P := by
  subst hv
  refine R_eq (b := k h c ls (.inl (f a b) :: st)) ?_ hk
  show xck (Nat.blt a 2147483648) (xck (Nat.blt b 2147483648) (xck (Nat.blt 0 b) (xst (f a b) (fun m => k h c ls (Sum.inl m :: st))))) = _
  rw [h1, h2, h3, xst_eq]
  rfl
theorem R_ishra {a b v : Nat} (h1 : Nat.blt b 32 = true) (h2 : Nat.blt a 4294967296 = true) (hv : f_ishr a b = v) (hk : xLeads (k h c ls (.inl v :: st)) P) : xLeads (h_ishra k h c ls (.inl b :: .inl a :: st)) P := by
  subst hv
  refine R_eq (b := k h c ls (.inl (f_ishr a b) :: st)) ?_ hk
  show xck (Nat.blt b 32) (xck (Nat.blt a 4294967296) (xst (f_ishr a b) (fun m => k h c ls (Sum.inl m :: st)))) = _
  rw [h1, h2, xst_eq]
  rfl
/-- a switch that goes its last way -/
theorem R_tabo {lo a : Nat} {js : List (xK d)} (h2 : Nat.blt a 4294967296 = true) (ho : Nat.blt a 2147483648 = false ∨ lo + js.length ≤ a) (hk : xLeads (j h c ls st) P) : xLeads (h_tablen lo js j h c ls (.inl a :: st)) P := by
  refine R_eq (b := j h c ls st) ?_ hk
  show xck (Nat.blt a 4294967296) (xif (Nat.blt a 2147483648) (xck (Nat.blt a 2147483648) (xif (Nat.ble lo a) (h_sel js j (Nat.sub a lo) h c ls st) (j h c ls st))) (j h c ls st)) = _
  rw [h2]
  cases hb : Nat.blt a 2147483648 with
  | false => rfl
  | true =>
    have ho2 : lo + js.length ≤ a := by
      rcases ho with z | z
      · rw [z] at hb; cases hb
      · exact z
    show xif (Nat.ble lo a) (h_sel js j (Nat.sub a lo) h c ls st) (j h c ls st) = _
    rw [Nat.ble_eq_true_of_le (Nat.le_trans (Nat.le_add_right lo js.length) ho2), h_sel_eq, List.getD_eq_getElem?_getD, List.getElem?_eq_none (show js.length ≤ Nat.sub a lo from Nat.le_sub_of_add_le (by rw [Nat.add_comm]; exact ho2))]
    rfl
theorem R_tabi {lo a : Nat} {js : List (xK d)} {t : xK d} (h1 : Nat.blt a 2147483648 = true) (h3 : Nat.ble lo a = true) (ht : h_sel js j (Nat.sub a lo) = t) (hk : xLeads (t h c ls st) P) : xLeads (h_tablen lo js j h c ls (.inl a :: st)) P := by
  subst ht
  have h2 : Nat.blt a 4294967296 = true := by rw [blt_iff] at h1 ⊢; omega
  refine R_eq (b := h_sel js j (Nat.sub a lo) h c ls st) ?_ hk
  show xck (Nat.blt a 4294967296) (xif (Nat.blt a 2147483648) (xck (Nat.blt a 2147483648) (xif (Nat.ble lo a) (h_sel js j (Nat.sub a lo) h c ls st) (j h c ls st))) (j h c ls st)) = _
  rw [h2, h1, h3]
  rfl
theorem R_tabj {lo a : Nat} {js : List (xK d)} {t : xK d} (h1 : Nat.blt a 2147483648 = true) (h3 : Nat.ble lo a = true) (ht : js[Nat.sub a lo]? = some t) (hk : xLeads (t h c ls st) P) : xLeads (h_tablen lo js j h c ls (.inl a :: st)) P := R_tabi h1 h3 (by rw [h_sel_eq, List.getD_eq_getElem?_getD, ht, Option.getD_some]) hk
theorem R_callv {b0 b1 nA kc q m : Nat} {pads acc : List xO} {st1 : List xV} {A : Nat} (ha : ∀ K : List xO → List xV → xR d, xargs nA st pads K = K acc (.inr (.inr (q + 1)) :: st1)) (hq : Nat.blt q (Prod.fst c) = true) (hx : xget d h q = (kc, (0, A))) (hs : ∀ r : xR d, xsmall 8 st1 r = r) (hk : xLeads (ih (h, (c, (m, ((b0, (some (.inr (.inr (q + 1))) :: acc, [])), (b1, (ls, st1)) :: fs))))) P) : xLeads (h_callv b0 b1 nA kc pads (m + 1) fs ih h c ls st) P := by
  refine R_eq (b := ih (h, (c, (m, ((b0, (some (.inr (.inr (q + 1))) :: acc, [])), (b1, (ls, st1)) :: fs))))) ?_ hk
  show xargs nA st pads (fun acc st => xpop st (fun v st => xobj v (fun q => xck (Nat.blt q (Prod.fst c)) (xck (Nat.beq (Prod.fst (xget d h q)) kc) (xsmall 8 st (xdown (m + 1) (fun m => ih (h, (c, (m, ((b0, (some v :: acc, [])), (b1, (ls, st)) :: fs))))))))))) = _
  rw [ha]
  show xck (Nat.blt q (Prod.fst c)) (xck (Nat.beq (Prod.fst (xget d h q)) kc) (xsmall 8 st1 (ih (h, (c, (m, ((b0, (some (.inr (.inr (q + 1))) :: acc, [])), (b1, (ls, st1)) :: fs))))))) = _
  rw [hq, hx]
  show xck (Nat.beq kc kc) (xsmall 8 st1 _) = _
  rw [Nat.beq_refl, hs]
  rfl
theorem R_ret {b : Nat} {ls1 : List xO} {st1 : List xV} (hk : xLeads (ih (h, (c, (dl + 1, ((b, (ls1, st1)), fs))))) P) : xLeads (h_ret dl ((b, (ls1, st1)) :: fs) ih h c ls []) P := hk
theorem R_iret {b a : Nat} {ls1 : List xO} {st1 : List xV} (hk : xLeads (ih (h, (c, (dl + 1, ((b, (ls1, .inl a :: st1)), fs))))) P) : xLeads (h_iret dl ((b, (ls1, st1)) :: fs) ih h c ls [.inl a]) P := hk
theorem R_zret {b a : Nat} {ls1 : List xO} {st1 : List xV} (h2 : Nat.blt a 2 = true) (hk : xLeads (ih (h, (c, (dl + 1, ((b, (ls1, .inl a :: st1)), fs))))) P) : xLeads (h_zret dl ((b, (ls1, st1)) :: fs) ih h c ls [.inl a]) P := by
  refine R_eq (b := ih (h, (c, (dl + 1, ((b, (ls1, .inl a :: st1)), fs))))) ?_ hk
  show xck (Nat.blt a 2) _ = _
  rw [h2]
  rfl
theorem R_iend {a : Nat} (hP : P (some (.inl a), (h, c))) : xLeads (h_iret dl [] ih h c ls [.inl a]) P := ⟨_, rfl, hP⟩
theorem R_zend {a : Nat} (h2 : Nat.blt a 2 = true) (hP : P (some (.inl a), (h, c))) : xLeads (h_zret dl [] ih h c ls [.inl a]) P := by
  refine ⟨_, ?_, hP⟩
  show xck (Nat.blt a 2) _ = _
  rw [h2]
  rfl
end TRACE3
/-! numbers of which the low digit alone is known -/
theorem xok4_of {A L : Nat} (h : A % 4294967296 = L) (hL : L < 4294967295) : xok4 A = true := by
  show Nat.blt (A % 4294967296) 4294967295 = true
  rw [h, blt_iff]
  exact hL
theorem xs4_low {A L i v : Nat} (hv : v < 4294967296) (h : A % 4294967296 = L) (hL : L + 1 < 4294967296) : xs4 A i v % 4294967296 = L + 1 := by
  have h0 := xdg_ds (show (4294967296 : Nat) = 2 ^ 32 by decide +kernel) A (i + 1) v 0 hv
  rw [if_neg (by omega), xdg_eq (by decide +kernel), xdg_eq (by decide +kernel), Nat.pow_zero, Nat.div_one, Nat.div_one, h] at h0
  show (xds 32 4294967296 A (i + 1) v + 1) % 4294967296 = L + 1
  omega
theorem f_byte_lt (a : Nat) : f_byte a < 4294967296 := by
  have hm : a % 256 < 256 := Nat.mod_lt a (by decide)
  have h : ∀ (c : Bool) (x : Nat), x < 256 → xif c (Nat.add x 4294967040) x < 4294967296 := fun c x hx => by
    cases c with
    | false => exact Nat.lt_of_lt_of_le hx (Nat.le_of_ble_eq_true rfl)
    | true =>
      show x + 4294967040 < 4294967296
      omega
  exact h (Nat.ble 128 (Nat.mod a 256)) (a % 256) hm

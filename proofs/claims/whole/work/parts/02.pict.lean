/-! The machine's picture: values, cells, locals; what they stand for in the heap. -/
abbrev xV : Type := Sum Nat (Sum Nat Nat)
abbrev xO : Type := Option xV
abbrev xC : Type := Nat × (Nat × Nat)
def xval (ad : Nat → Nat) (v : xV) : Value := match v with
  | .inl n => .int (nI n)
  | .inr (.inl n) => .long (lN n)
  | .inr (.inr 0) => .null
  | .inr (.inr (k + 1)) => .ref (ad k)
def xlong (v : xV) : Bool := match v with
  | .inr (.inl _) => true
  | _ => false
theorem xval_cat {ad : Nat → Nat} {v : xV} (h : xlong v = false) : (xval ad v).category = 1 := by
  match v with
  | .inl n => rfl
  | .inr (.inl n) => cases h
  | .inr (.inr 0) => rfl
  | .inr (.inr (k + 1)) => rfl
/-- a field by its digit: 0 a number, 1 a long one, 2 a place (0 null) -/
def xfv (ad : Nat → Nat) (t n : Nat) : Value := match t with
  | 0 => .int (nI n)
  | 1 => .long (lN n)
  | _ => match n with
    | 0 => .null
    | k + 1 => .ref (ad k)
def xrf (ad : Nat → Nat) (n : Nat) : Option Nat := match n with
  | 0 => none
  | k + 1 => some (ad k)
/-- digits behind a first one, that only tells the versions of a number apart (the kernel's tables look at a number's low end alone) -/
noncomputable def xd4 (A i : Nat) : Nat := xdg 32 4294967296 A (Nat.succ i)
noncomputable def xd8 (A i : Nat) : Nat := xdg 64 18446744073709551616 A (Nat.succ i)
noncomputable def xs4 (A i v : Nat) : Nat := Nat.succ (xds 32 4294967296 A (Nat.succ i) v)
noncomputable def xs8 (A i v : Nat) : Nat := Nat.succ (xds 64 18446744073709551616 A (Nat.succ i) v)
noncomputable def xok4 (A : Nat) : Bool := Nat.blt (Nat.mod A 4294967296) 4294967295
noncomputable def xok8 (A : Nat) : Bool := Nat.blt (Nat.mod A 18446744073709551616) 18446744073709551615
theorem xdg_succ {w B : Nat} (hB : B = 2 ^ w) {E i : Nat} (h : E % B + 1 < B) : xdg w B (E + 1) (i + 1) = xdg w B E (i + 1) := by
  have hB0 : 0 < B := by omega
  rw [xdg_eq hB, xdg_eq hB, Nat.pow_succ, Nat.mul_comm, ← Nat.div_div_eq_div_mul, ← Nat.div_div_eq_div_mul]
  have e : (E + 1) / B = E / B := by
    have h1 := Nat.div_add_mod E B
    rw [show E + 1 = B * (E / B) + (E % B + 1) by omega, Nat.mul_add_div hB0, Nat.div_eq_of_lt h, Nat.add_zero]
  rw [e]
theorem xdg_s {w B : Nat} (hB : B = 2 ^ w) {A i v j : Nat} (hv : v < B) (h : A % B + 1 < B) : xdg w B (xds w B A (i + 1) v + 1) (j + 1) = if j = i then v else xdg w B A (j + 1) := by
  have h0 := xdg_ds hB A (i + 1) v 0 hv
  rw [if_neg (by omega), xdg_eq hB, xdg_eq hB, Nat.pow_zero, Nat.div_one, Nat.div_one] at h0
  rw [xdg_succ hB (by rw [h0]; exact h), xdg_ds hB A (i + 1) v (j + 1) hv]
  by_cases e : j = i
  · rw [if_pos e, if_pos (by omega)]
  · rw [if_neg e, if_neg (by omega)]
theorem xd4_s (A i v j : Nat) (hv : v < 4294967296) (h : xok4 A = true) : xd4 (xs4 A i v) j = if j = i then v else xd4 A j := by
  have h : Nat.ble (A % 4294967296 + 1) 4294967295 = true := h
  rw [Nat.ble_eq] at h
  exact xdg_s (by decide +kernel) hv (by omega)
theorem xd8_s (A i v j : Nat) (hv : v < 18446744073709551616) (h : xok8 A = true) : xd8 (xs8 A i v) j = if j = i then v else xd8 A j := by
  have h : Nat.ble (A % 18446744073709551616 + 1) 18446744073709551615 = true := h
  rw [Nat.ble_eq] at h
  exact xdg_s (by decide +kernel) hv (by omega)
theorem xd4_0 {A : Nat} (h : A < 4294967296) (i : Nat) : xd4 A i = 0 := by
  show xdg 32 4294967296 A (i + 1) = 0
  rw [xdg_eq (by decide +kernel), Nat.pow_succ, Nat.mul_comm, ← Nat.div_div_eq_div_mul, Nat.div_eq_of_lt h, Nat.zero_div, Nat.zero_mod]
theorem xd8_0 {A : Nat} (h : A < 18446744073709551616) (i : Nat) : xd8 A i = 0 := by
  show xdg 64 18446744073709551616 A (i + 1) = 0
  rw [xdg_eq (by decide +kernel), Nat.pow_succ, Nat.mul_comm, ← Nat.div_div_eq_div_mul, Nat.div_eq_of_lt h, Nat.zero_div, Nat.zero_mod]
/-- what a cell is: kind 0 ints, 1 bytes, 2 booleans, 3 longs, 4 places; from 8 on an object of class kind - 8 -/
noncomputable def xcell (ad : Nat → Nat) (cA fl : Nat → Nat) (ft : Nat → Nat → Nat) (c : xC) : va_E := match c with
  | (0, n, A) => .inl (cA 0, (n, .inl (fun i => nI (xd4 A i))))
  | (1, n, A) => .inl (cA 1, (n, .inl (fun i => nI (xd4 A i))))
  | (2, n, A) => .inl (cA 2, (n, .inl (fun i => nI (xd4 A i))))
  | (3, n, A) => .inl (cA 3, (n, .inr (.inl (fun i => lN (xd8 A i)))))
  | (4, n, A) => .inl (cA 4, (n, .inr (.inr (.inr (.inr (fun i => xrf ad (xd8 A i)))))))
  | (k + 8, _, A) => .inr (k, (List.range (fl k)).map (fun j => xfv ad (ft k j) (xd8 A j)))
  | (_, n, A) => .inl (cA 0, (n, .inl (fun i => nI (xd4 A i))))
noncomputable def xws (ad : Nat → Nat) (cA fl : Nat → Nat) (ft : Nat → Nat → Nat) (g : Nat → xC) (n : Nat) : va_W := (List.range n).map (fun k => (ad k, xcell ad cA fl ft (g k)))
section XWS
variable {ad cA fl : Nat → Nat} {ft : Nat → Nat → Nat} {g g' : Nat → xC} {n : Nat}
theorem xws_get {k : Nat} (hk : k < n) : (xws ad cA fl ft g n)[k]? = some (ad k, xcell ad cA fl ft (g k)) := by
  unfold xws
  rw [List.getElem?_map, List.getElem?_range hk]
  rfl
theorem xws_set {k : Nat} {e : va_E} (he : e = xcell ad cA fl ft (g' k)) (hg : ∀ j, j < n → j ≠ k → g' j = g j) : (xws ad cA fl ft g n).set k (ad k, e) = xws ad cA fl ft g' n := by
  apply List.ext_getElem?
  intro j
  by_cases hj : j < n
  · rw [xws_get hj]
    by_cases h : j = k
    · subst h
      rw [List.getElem?_set_self (by simp [xws, hj]), he]
    · rw [List.getElem?_set_ne (Ne.symm h), xws_get hj, hg j hj h]
  · have l1 : ((xws ad cA fl ft g n).set k (ad k, e)).length ≤ j := by simp [xws]; omega
    have l2 : (xws ad cA fl ft g' n).length ≤ j := by simp [xws]; omega
    rw [List.getElem?_eq_none l1, List.getElem?_eq_none l2]
theorem xws_push {e : va_E} (he : e = xcell ad cA fl ft (g' n)) (hg : ∀ j, j < n → g' j = g j) : xws ad cA fl ft g n ++ [(ad n, e)] = xws ad cA fl ft g' (n + 1) := by
  unfold xws
  rw [List.range_succ, List.map_append, he]
  congr 1
  apply List.map_congr_left
  intro j hj
  rw [hg j (List.mem_range.mp hj)]
end XWS
/-! locals -/
def xclaim (ad : Nat → Nat) (ls : List xO) (i : Nat) : Option (Nat × Value) := match ls[i]? with
  | some (some v) => if xlong v = true ∧ ¬ ls[i + 1]? = some none then none else some (i, xval ad v)
  | _ => none
def xcl (ad : Nat → Nat) (ls : List xO) : List (Nat × Value) := (List.range ls.length).filterMap (xclaim ad ls)
/-- the locals hold what the list says; a long one as long as nothing was put into its second half -/
def xL (ad : Nat → Nat) (lsA : Array Slot) (nL : Nat) (ls : List xO) : Prop := ls.length = nL ∧ lv_has lsA nL (xcl ad ls)
theorem xcl_mem {ad : Nat → Nat} {ls : List xO} {q : Nat × Value} : q ∈ xcl ad ls ↔ xclaim ad ls q.1 = some q := by
  unfold xcl
  rw [List.mem_filterMap]
  constructor
  · rintro ⟨i, -, h⟩
    have : i = q.1 := by
      unfold xclaim at h
      split at h
      · split at h
        · cases h
        · cases h; rfl
      · cases h
    rw [← this]; exact h
  · intro h
    refine ⟨q.1, List.mem_range.mpr ?_, h⟩
    unfold xclaim at h
    split at h
    · next v hv => exact (List.getElem?_eq_some_iff.mp hv).1
    · cases h
theorem xL_at {ad : Nat → Nat} {lsA : Array Slot} {nL : Nat} {ls : List xO} (h : xL ad lsA nL ls) {i : Nat} {v : xV} (hi : ls[i]? = some (some v)) (hv : xlong v = false) : lsA[i]? = some (.val (xval ad v)) := by
  refine h.2.2.2 (i, xval ad v) (xcl_mem.mpr ?_)
  unfold xclaim
  rw [hi]
  simp [hv]
theorem xL_in {ad : Nat → Nat} {lsA : Array Slot} {nL : Nat} {ls : List xO} (h : xL ad lsA nL ls) {i : Nat} {v : xV} (hi : ls[i]? = some (some v)) (hv : xlong v = false) : ∃ k : Nat, (xcl ad ls)[k]? = some (i, xval ad v) := by
  apply List.getElem?_of_mem
  apply xcl_mem.mpr
  unfold xclaim
  rw [hi]
  simp [hv]
/-- behind a store of one slot -/
theorem xL_put {ad : Nat → Nat} {ls' : Array Slot} {nL : Nat} {ls : List xO} {i : Nat} {v : xV} (hn : ls.length = nL) (hi : i < nL) (hv : xlong v = false) (h : lv_has ls' nL ((i, xval ad v) :: (xcl ad ls).filter (fun q => !(q.1 == i) && !(q.1 + 1 == i && q.2.category == 2)))) : xL ad ls' nL (ls.set i (some v)) := by
  refine ⟨by rw [List.length_set]; exact hn, h.1, h.2.1, fun q hq => ?_⟩
  have hc := xcl_mem.mp hq
  unfold xclaim at hc
  have hil : i < ls.length := by omega
  by_cases e : q.1 = i
  · rw [e, List.getElem?_set_self hil] at hc
    simp [hv] at hc
    rw [← hc]
    exact h.2.2 (i, xval ad v) List.mem_cons_self
  · rw [List.getElem?_set_ne (Ne.symm e)] at hc
    refine h.2.2 q (List.mem_cons_of_mem _ (List.mem_filter.mpr ⟨xcl_mem.mpr ?_, ?_⟩))
    · unfold xclaim
      revert hc
      cases hq1 : ls[q.1]? with
      | none => intro hc; exact hc
      | some o =>
        cases o with
        | none => intro hc; exact hc
        | some w =>
          intro hc
          dsimp only at hc ⊢
          by_cases hw : xlong w = true
          · by_cases e2 : q.1 + 1 = i
            · rw [if_pos ⟨hw, by rw [e2, List.getElem?_set_self hil]; simp⟩] at hc
              cases hc
            · rw [List.getElem?_set_ne (by omega)] at hc
              exact hc
          · rw [if_neg (fun z => hw z.1)] at hc ⊢
            exact hc
    · have n1 : (q.1 == i) = false := by simp [e]
      rw [n1]
      have n2 : (q.1 + 1 == i && q.2.category == 2) = false := by
        revert hc
        cases hq1 : ls[q.1]? with
        | none => intro hc; cases hc
        | some o =>
          cases o with
          | none => intro hc; cases hc
          | some w =>
            intro hc
            dsimp only at hc
            by_cases e2 : q.1 + 1 = i
            · by_cases hw : xlong w = true
              · rw [if_pos ⟨hw, by rw [e2, List.getElem?_set_self hil]; simp⟩] at hc
                cases hc
              · rw [if_neg (fun z => hw z.1)] at hc
                have hq2 : q.2 = xval ad w := by rw [← Option.some.inj hc]
                rw [hq2, xval_cat (by simpa using hw)]
                simp
            · simp [e2]
      rw [n2]
      rfl
/-- the locals with which a method begins; no long ones -/
theorem xL_entry {ad : Nat → Nat} {vs : List xV} {nL : Nat} (hl : ∀ v ∈ vs, xlong v = false) (hn : vs.length ≤ nL) : xL ad ((lg_sl (vs.map (xval ad)) ++ List.replicate (nL - (lg_sl (vs.map (xval ad))).length) Slot.unset).toArray) nL (vs.map some ++ List.replicate (nL - vs.length) none) := by
  have e1 : ∀ (vs : List xV), (∀ v ∈ vs, xlong v = false) → (lg_sl (vs.map (xval ad))).length = vs.length := by
    intro vs
    induction vs with
    | nil => intro _; rfl
    | cons v vs ih =>
      intro h
      have h2 := ih (fun w hw => h w (List.mem_cons_of_mem _ hw))
      have h1 := xval_cat (ad := ad) (h v List.mem_cons_self)
      unfold lg_sl at h2 ⊢
      rw [List.map_cons, List.flatMap_cons, List.length_append, h2, if_neg (by omega)]
      simp; omega
  have e2 : ∀ (vs : List xV) (i : Nat), (∀ v ∈ vs, xlong v = false) → ∀ (k : Nat) (v : xV), vs[k]? = some v → (i + k, xval ad v) ∈ lv_args i (vs.map (xval ad)) := by
    intro vs
    induction vs with
    | nil => intro i _ k v hk; simp at hk
    | cons w vs ih =>
      intro i h k v hk
      have h1 := xval_cat (ad := ad) (h w List.mem_cons_self)
      show (i + k, xval ad v) ∈ (i, xval ad w) :: lv_args (if (xval ad w).category = 2 then i + 2 else i + 1) (vs.map (xval ad))
      rw [if_neg (by omega)]
      cases k with
      | zero =>
        rw [List.getElem?_cons_zero] at hk
        cases hk
        exact List.mem_cons_self
      | succ k =>
        rw [List.getElem?_cons_succ] at hk
        have h3 := ih (i + 1) (fun x hx => h x (List.mem_cons_of_mem _ hx)) k v hk
        rw [show i + (k + 1) = i + 1 + k by omega]
        exact List.mem_cons_of_mem _ h3
  have hE := lv_entry (vs.map (xval ad)) (n := nL) (by rw [e1 vs hl]; exact hn)
  refine ⟨by simp; omega, hE.1, hE.2.1, fun q hq => ?_⟩
  have hc := xcl_mem.mp hq
  unfold xclaim at hc
  split at hc
  · next v hv =>
    have hlt : q.1 < vs.length := by
      rcases Nat.lt_or_ge q.1 vs.length with z | z
      · exact z
      · rw [List.getElem?_append_right (by simpa using z)] at hv
        have h5 := List.mem_of_getElem? hv
        simp at h5
    rw [List.getElem?_append_left (by simpa using hlt), List.getElem?_map] at hv
    cases hk : vs[q.1]? with
    | none => rw [hk] at hv; cases hv
    | some w =>
      rw [hk] at hv
      have hwv : w = v := Option.some.inj (Option.some.inj hv)
      subst hwv
      have hw := hl w (List.mem_of_getElem? hk)
      rw [if_neg (fun z => by rw [hw] at z; cases z.1)] at hc
      have h6 := e2 vs 0 hl q.1 w hk
      rw [Nat.zero_add, Option.some.inj hc] at h6
      exact hE.2.2 _ h6
  · cases hc

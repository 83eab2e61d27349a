/-! Two calls, one behind the other, that answer alike and make nothing. -/
noncomputable def xop {d e : Nat} (code : xBT (xB d) e) (n N : Nat) (h : xBT xC d) (p : Nat × List xO) : xR d := xrun code n (h, ((N, 0), (20, ((Prod.fst p, (Prod.snd p, [])), []))))
/-- the answer is an int, and nothing was made -/
noncomputable def xans {d : Nat} (N : Nat) (r : xR d) (k : Nat → xBT xC d → Bool) : Bool := Option.rec (motive := fun _ => Bool) false (fun y => Prod.rec (motive := fun _ => Bool) (fun v u => Prod.rec (motive := fun _ => Bool) (fun h c => Option.rec (motive := fun _ => Bool) false (fun w => Sum.rec (motive := fun _ => Bool) (fun a => xband (xeP Nat.beq Nat.beq c (N, 0)) (k a h)) (fun _ => false) w) v) u) y) r
noncomputable def xsame {d e : Nat} (code : xBT (xB d) e) (n N : Nat) (h : xBT xC d) (o kc : Nat) (p q : Nat × List xO) : Bool := xans N (xop code n N h p) (fun a h1 => xband (Nat.beq (Prod.fst (xget d h1 o)) kc) (xans N (xop code n N h1 q) (fun b _ => Nat.beq a b)))
theorem xans_s {d N : Nat} : ∀ {r : xR d} {k : Nat → xBT xC d → Bool}, xans N r k = true → ∃ a h, r = some (some (.inl a), (h, (N, 0))) ∧ k a h = true
  | none, _, h => Bool.noConfusion h
  | some (none, (_, _)), _, h => Bool.noConfusion h
  | some (some (.inr _), (_, _)), _, h => Bool.noConfusion h
  | some (some (.inl a), (h1, c)), k, h => by
    have h2 := xband_s (a := xeP Nat.beq Nat.beq c (N, 0)) (b := k a h1) h
    have h3 := xeP_s xeN_s xeN_s c (N, 0) h2.1
    exact ⟨a, h1, by rw [h3], h2.2⟩
theorem xsame_s {d e n N o kc : Nat} {code : xBT (xB d) e} {h : xBT xC d} {p q : Nat × List xO} (hs : xsame code n N h o kc p q = true) : ∃ a h1 h2, xop code n N h p = some (some (.inl a), (h1, (N, 0))) ∧ Prod.fst (xget d h1 o) = kc ∧ xop code n N h1 q = some (some (.inl a), (h2, (N, 0))) := by
  obtain ⟨a, h1, e1, k1⟩ := xans_s hs
  have k3 := xband_s (a := Nat.beq (Prod.fst (xget d h1 o)) kc) (b := xans N (xop code n N h1 q) (fun b _ => Nat.beq a b)) k1
  obtain ⟨b, h2, e2, k2⟩ := xans_s k3.2
  rw [← Nat.eq_of_beq_eq_true k2] at e2
  exact ⟨a, h1, h2, e1, Nat.eq_of_beq_eq_true k3.1, e2⟩
/-! a test at every leaf -/
noncomputable def xallb {α : Type} (f : α → Bool) (q : Nat) : xBT α q → Bool := Nat.rec (motive := fun q => xBT α q → Bool) f (fun _ ih t => Prod.rec (motive := fun _ => Bool) (fun a b => xband (ih a) (ih b)) t) q
theorem xallb_s {α : Type} {f : α → Bool} : ∀ {q : Nat} {t : xBT α q}, xallb f q t = true → ∀ i, f (xget q t i) = true
  | 0, _, h, _ => h
  | q + 1, (a, b), h, i => by
    have h2 := xband_s (a := xallb f q a) (b := xallb f q b) h
    show f (xif (Nat.beq (Nat.mod i 2) 0) (xget q a (Nat.div i 2)) (xget q b (Nat.div i 2))) = true
    cases Nat.beq (Nat.mod i 2) 0
    · exact xallb_s h2.2 _
    · exact xallb_s h2.1 _

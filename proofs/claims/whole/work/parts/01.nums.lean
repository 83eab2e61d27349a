/-! A machine of numbers: its data. The kernel works it out; the rows behind tie it to the walk of the bytecode. -/
noncomputable def xif {α : Type} (c : Bool) (a b : α) : α := Bool.rec (motive := fun _ => α) b a c
theorem xif_or {α : Type} {c : Bool} {a b x : α} (h : xif c a b = x) : (c = true ∧ a = x) ∨ (c = false ∧ b = x) := by
  cases c
  · exact Or.inr ⟨rfl, h⟩
  · exact Or.inl ⟨rfl, h⟩
/-- a number is worked out before it is handed on -/
noncomputable def xst {α : Type} (n : Nat) (k : Nat → α) : α := Nat.rec (motive := fun _ => α) (k 0) (fun m _ => k (Nat.succ m)) n
theorem xst_eq {α : Type} (n : Nat) (k : Nat → α) : xst n k = k n := by cases n <;> rfl
/-! digits: of w bits each, B = 2 ^ w -/
noncomputable def xdg (w B A i : Nat) : Nat := Nat.mod (Nat.shiftRight A (Nat.mul w i)) B
noncomputable def xds (w B A i v : Nat) : Nat := Nat.add (Nat.sub A (Nat.shiftLeft (xdg w B A i) (Nat.mul w i))) (Nat.shiftLeft v (Nat.mul w i))
theorem xdg_eq {w B : Nat} (hB : B = 2 ^ w) (A i : Nat) : xdg w B A i = A / B ^ i % B := by
  show (A >>> (w * i)) % B = _
  rw [Nat.shiftRight_eq_div_pow, Nat.pow_mul, ← hB]
theorem xds_eq {w B : Nat} (hB : B = 2 ^ w) (A i v : Nat) : xds w B A i v = (A / B ^ i / B * B + v) * B ^ i + A % B ^ i := by
  have e : xdg w B A i = A / B ^ i % B := xdg_eq hB A i
  show (A - (xdg w B A i) <<< (w * i)) + v <<< (w * i) = _
  rw [Nat.shiftLeft_eq, Nat.shiftLeft_eq, Nat.pow_mul, ← hB, e]
  have h1 := Nat.div_add_mod A (B ^ i)
  have h2 := Nat.div_add_mod (A / B ^ i) B
  generalize A / B ^ i % B = o at h2 ⊢
  generalize A / B ^ i / B = q at h2 ⊢
  generalize A % B ^ i = lo at h1 ⊢
  rw [← h2] at h1
  generalize B ^ i = P at h1 ⊢
  have h3 : A = (B * q) * P + o * P + lo := by rw [← h1, Nat.mul_comm P, Nat.add_mul]
  rw [h3, Nat.add_mul, Nat.mul_comm q B]
  omega
theorem xdg_lt {w B : Nat} (hB : B = 2 ^ w) (A i : Nat) : xdg w B A i < B := by
  rw [xdg_eq hB]
  exact Nat.mod_lt _ (by rw [hB]; exact Nat.pow_pos (by decide))
theorem xdg_ds {w B : Nat} (hB : B = 2 ^ w) (A i v j : Nat) (hv : v < B) : xdg w B (xds w B A i v) j = if j = i then v else xdg w B A j := by
  have hB0 : 0 < B := by rw [hB]; exact Nat.pow_pos (by decide)
  rw [xdg_eq hB, xdg_eq hB, xds_eq hB]
  have hP : ∀ k, 0 < B ^ k := fun k => Nat.pow_pos hB0
  have hlo : A % B ^ i < B ^ i := Nat.mod_lt _ (hP i)
  generalize hq : A / B ^ i = q
  have hA : q * B ^ i + A % B ^ i = A := by rw [← hq, Nat.mul_comm]; exact Nat.div_add_mod A (B ^ i)
  generalize A % B ^ i = lo at hlo hA ⊢
  rcases Nat.lt_trichotomy j i with h | h | h
  · rw [if_neg (by omega)]
    obtain ⟨d, rfl⟩ : ∃ d, i = j + (d + 1) := ⟨i - j - 1, by omega⟩
    have e : B ^ (j + (d + 1)) = B ^ j * (B * B ^ d) := by rw [Nat.pow_add, Nat.pow_succ, Nat.mul_comm (B ^ d)]
    have g : ∀ x : Nat, (x * B ^ (j + (d + 1)) + lo) / B ^ j % B = lo / B ^ j % B := by
      intro x
      rw [e, show x * (B ^ j * (B * B ^ d)) = B ^ j * (B * (x * B ^ d)) by rw [Nat.mul_left_comm, Nat.mul_left_comm x], Nat.mul_add_div (hP j), Nat.mul_add_mod]
    rw [g, ← hA, g]
  · subst h
    rw [if_pos rfl, Nat.mul_comm _ (B ^ j), Nat.mul_add_div (hP j), Nat.div_eq_of_lt hlo, Nat.add_zero, Nat.mul_comm _ B, Nat.mul_add_mod, Nat.mod_eq_of_lt hv]
  · rw [if_neg (by omega)]
    obtain ⟨d, rfl⟩ : ∃ d, j = i + (d + 1) := ⟨j - i - 1, by omega⟩
    have e : B ^ (i + (d + 1)) = B ^ i * (B * B ^ d) := by rw [Nat.pow_add, Nat.pow_succ, Nat.mul_comm (B ^ d)]
    have g : ∀ x : Nat, (x * B ^ i + lo) / B ^ (i + (d + 1)) = x / B / B ^ d := by
      intro x
      rw [e, ← Nat.div_div_eq_div_mul, Nat.mul_comm x, Nat.mul_add_div (hP i), Nat.div_eq_of_lt hlo, Nat.add_zero, ← Nat.div_div_eq_div_mul]
    have e2 : A / B ^ (i + (d + 1)) = q / B / B ^ d := by rw [← g q, hA]
    rw [g, e2, Nat.mul_comm (q / B), Nat.mul_add_div hB0, Nat.div_eq_of_lt hv, Nat.add_zero]
/-! full trees -/
def xBT (α : Type) : Nat → Type := Nat.rec α (fun _ T => T × T)
noncomputable def xget {α : Type} (d : Nat) : xBT α d → Nat → α := Nat.rec (motive := fun d => xBT α d → Nat → α) (fun t _ => t) (fun _ ih t i => Prod.rec (motive := fun _ => α) (fun a b => xif (Nat.beq (Nat.mod i 2) 0) (ih a (Nat.div i 2)) (ih b (Nat.div i 2))) t) d
noncomputable def xset {α : Type} (d : Nat) : xBT α d → Nat → α → xBT α d := Nat.rec (motive := fun d => xBT α d → Nat → α → xBT α d) (fun _ _ a => a) (fun _ ih t i a => xif (Nat.beq (Nat.mod i 2) 0) (ih (Prod.fst t) (Nat.div i 2) a, Prod.snd t) (Prod.fst t, ih (Prod.snd t) (Nat.div i 2) a)) d
noncomputable def xsetK {α R : Type} (d : Nat) : xBT α d → Nat → α → (xBT α d → R) → R := Nat.rec (motive := fun d => xBT α d → Nat → α → (xBT α d → R) → R) (fun _ _ a k => k a) (fun _ ih t i a k => Prod.rec (motive := fun _ => R) (fun u v => xif (Nat.beq (Nat.mod i 2) 0) (ih u (Nat.div i 2) a (fun l => k (l, v))) (ih v (Nat.div i 2) a (fun r => k (u, r)))) t) d
theorem xsetK_eq {α R : Type} : ∀ (d : Nat) (t : xBT α d) (i : Nat) (a : α) (k : xBT α d → R), xsetK d t i a k = k (xset d t i a)
  | 0, _, _, _, _ => rfl
  | d + 1, t, i, a, k => by
    show xif (Nat.beq (Nat.mod i 2) 0) (xsetK d (Prod.fst t) (Nat.div i 2) a (fun l => k (l, Prod.snd t))) (xsetK d (Prod.snd t) (Nat.div i 2) a (fun r => k (Prod.fst t, r))) = k (xif (Nat.beq (Nat.mod i 2) 0) (xset d (Prod.fst t) (Nat.div i 2) a, Prod.snd t) (Prod.fst t, xset d (Prod.snd t) (Nat.div i 2) a))
    rw [xsetK_eq d, xsetK_eq d]
    cases Nat.beq (Nat.mod i 2) 0 <;> rfl
theorem xget_set {α : Type} : ∀ (d : Nat) (t : xBT α d) (i j : Nat) (a : α), i < 2 ^ d → j < 2 ^ d → xget d (xset d t i a) j = if j = i then a else xget d t j
  | 0, t, i, j, a, hi, hj => by
    have h1 : i = 0 := by omega
    have h2 : j = 0 := by omega
    rw [h1, h2, if_pos rfl]
    rfl
  | d + 1, t, i, j, a, hi, hj => by
    have hi2 : i / 2 < 2 ^ d := by rw [Nat.pow_succ] at hi; omega
    have hj2 : j / 2 < 2 ^ d := by rw [Nat.pow_succ] at hj; omega
    show xif (Nat.beq (j % 2) 0) (xget d (Prod.fst (xset (d + 1) t i a)) (j / 2)) (xget d (Prod.snd (xset (d + 1) t i a)) (j / 2)) = if j = i then a else xif (Nat.beq (j % 2) 0) (xget d (Prod.fst t) (j / 2)) (xget d (Prod.snd t) (j / 2))
    rw [show xset (d + 1) t i a = xif (Nat.beq (i % 2) 0) (xset d (Prod.fst t) (i / 2) a, Prod.snd t) (Prod.fst t, xset d (Prod.snd t) (i / 2) a) from rfl]
    have e1 : ∀ n : Nat, n % 2 = 0 → Nat.beq (n % 2) 0 = true := fun n h => by rw [h]; rfl
    have e2 : ∀ n : Nat, n % 2 = 1 → Nat.beq (n % 2) 0 = false := fun n h => by rw [h]; rfl
    rcases Nat.mod_two_eq_zero_or_one i with a1 | a1 <;> rcases Nat.mod_two_eq_zero_or_one j with b1 | b1
    · rw [e1 i a1, e1 j b1]
      show xget d (xset d (Prod.fst t) (i / 2) a) (j / 2) = if j = i then a else xget d (Prod.fst t) (j / 2)
      rw [xget_set d _ _ _ _ hi2 hj2]
      by_cases h : j = i
      · rw [if_pos h, if_pos (by rw [h])]
      · rw [if_neg h, if_neg (by omega)]
    · rw [e1 i a1, e2 j b1, if_neg (by omega)]
      rfl
    · rw [e2 i a1, e1 j b1, if_neg (by omega)]
      rfl
    · rw [e2 i a1, e2 j b1]
      show xget d (xset d (Prod.snd t) (i / 2) a) (j / 2) = if j = i then a else xget d (Prod.snd t) (j / 2)
      rw [xget_set d _ _ _ _ hi2 hj2]
      by_cases h : j = i
      · rw [if_pos h, if_pos (by rw [h])]
      · rw [if_neg h, if_neg (by omega)]
/-- what holds at every leaf -/
noncomputable def xall {α : Type} (P : Nat → α → Prop) (d : Nat) : Nat → Nat → xBT α d → Prop := Nat.rec (motive := fun d => Nat → Nat → xBT α d → Prop) (fun b _ t => P b t) (fun _ ih b s t => ih b (2 * s) (Prod.fst t) ∧ ih (b + s) (2 * s) (Prod.snd t)) d
theorem xall_get {α : Type} {P : Nat → α → Prop} : ∀ (d b s : Nat) (t : xBT α d), xall P d b s t → ∀ i, i < 2 ^ d → P (b + s * i) (xget d t i)
  | 0, b, s, t, h, i, hi => by
    have h1 : i = 0 := by omega
    subst h1
    exact h
  | d + 1, b, s, t, h, i, hi => by
    have hi2 : i / 2 < 2 ^ d := by rw [Nat.pow_succ] at hi; omega
    show P (b + s * i) (xif (Nat.beq (i % 2) 0) (xget d (Prod.fst t) (i / 2)) (xget d (Prod.snd t) (i / 2)))
    have hd := Nat.div_add_mod i 2
    rcases Nat.mod_two_eq_zero_or_one i with a | a
    · rw [a]
      have h1 := xall_get d b (2 * s) (Prod.fst t) h.1 (i / 2) hi2
      have e : b + 2 * s * (i / 2) = b + s * i := by
        rw [Nat.mul_comm 2 s, Nat.mul_assoc, show 2 * (i / 2) = i by omega]
      rw [e] at h1
      exact h1
    · rw [a]
      have h1 := xall_get d (b + s) (2 * s) (Prod.snd t) h.2 (i / 2) hi2
      have e : b + s + 2 * s * (i / 2) = b + s * i := by
        have h9 : s * i = s * (2 * (i / 2)) + s := by
          rw [← Nat.mul_succ]
          congr 1
          omega
        rw [Nat.mul_comm 2 s, Nat.mul_assoc, h9]
        omega
      rw [e] at h1
      exact h1
/-! whole numbers of 32 bits by their numbers -/
theorem xn_mod (a : Nat) : nI (a % 4294967296) = nI a := by
  apply Int32.toBitVec_inj.mp
  show BitVec.ofNat 32 (a % 4294967296) = BitVec.ofNat 32 a
  apply BitVec.eq_of_toNat_eq
  simp
theorem xn_toInt (a : Nat) : (nI a).toInt = (((a + 2147483648) % 4294967296 : Nat) : Int) - 2147483648 := by
  show (BitVec.ofNat 32 a).toInt = _
  rw [BitVec.toInt_ofNat']
  have h : ((2 : Nat) ^ 32 : Nat) = 4294967296 := by decide
  rw [Int.bmod_def]
  omega
noncomputable def xsg (a : Nat) : Nat := Nat.mod (Nat.add a 2147483648) 4294967296
theorem xn_sg (a : Nat) : (nI a).toInt = (xsg a : Int) - 2147483648 := xn_toInt a
theorem xn_le (a b : Nat) : nI a ≤ nI b ↔ xsg a ≤ xsg b := by
  rw [Int32.le_iff_toInt_le, xn_sg, xn_sg]; omega
theorem xn_lt (a b : Nat) : nI a < nI b ↔ xsg a < xsg b := by
  rw [Int32.lt_iff_toInt_lt, xn_sg, xn_sg]; omega
theorem xn_eq (a b : Nat) : nI a = nI b ↔ xsg a = xsg b := by
  rw [← Int32.toInt_inj, xn_sg, xn_sg]; omega
theorem xn_sub (a b : Nat) : nI a - nI b = nI (Nat.mod (Nat.sub (Nat.add a 4294967296) (Nat.mod b 4294967296)) 4294967296) := by
  show _ = nI ((a + 4294967296 - b % 4294967296) % 4294967296)
  apply Int32.toInt_inj.mp
  rw [Int32.toInt_sub, xn_toInt, xn_toInt, xn_toInt, Int.bmod_def]
  omega
theorem xn_add (a b : Nat) : nI a + nI b = nI (Nat.mod (Nat.add a b) 4294967296) := by
  rw [nI_add]; exact (xn_mod (a + b)).symm
theorem xn_mul (a b : Nat) : nI a * nI b = nI (Nat.mod (Nat.mul a b) 4294967296) := by
  rw [pk_mul]; exact (xn_mod (a * b)).symm
theorem xn_neg (a : Nat) : -nI a = nI (Nat.mod (Nat.sub 4294967296 (Nat.mod a 4294967296)) 4294967296) := by
  show _ = nI ((4294967296 - a % 4294967296) % 4294967296)
  apply Int32.toInt_inj.mp
  rw [Int32.toInt_neg, xn_toInt, xn_toInt, Int.bmod_def]
  omega
theorem xn_and (a b : Nat) : nI a &&& nI b = nI (Nat.land a b) := by
  apply Int32.toBitVec_inj.mp
  show BitVec.ofNat 32 a &&& BitVec.ofNat 32 b = BitVec.ofNat 32 (a &&& b)
  apply BitVec.eq_of_toNat_eq
  simp [Nat.and_mod_two_pow]
theorem xn_clamp {a : Nat} (h : a < 2147483648) : (nI a).toNatClampNeg = a := nI_clamp h
theorem xn_in {a n : Nat} (h1 : a < 2147483648) (h2 : a < n) : vp_in (nI a) n := by
  rw [vp_in_iff, xn_toInt]; omega
theorem xn_ofInt (z : Int) : Int32.ofInt z = nI (z % 4294967296).toNat := by
  apply Int32.toInt_inj.mp
  have h : (Int32.size : Nat) = 4294967296 := rfl
  rw [Int32.toInt_ofInt, xn_toInt, h, Int.bmod_def]
  omega
theorem xn_byte (a : Nat) : (nI a).toInt8.toInt32 = nI (xif (Nat.ble 128 (Nat.mod a 256)) (Nat.add (Nat.mod a 256) 4294967040) (Nat.mod a 256)) := by
  apply Int32.toInt_inj.mp
  rw [Int8.toInt_toInt32, Int32.toInt_toInt8, xn_toInt, Int.bmod_def]
  show _ = (nI (xif (Nat.ble 128 (a % 256)) (a % 256 + 4294967040) (a % 256))).toInt
  rw [xn_toInt]
  by_cases h : 128 ≤ a % 256
  · rw [Nat.ble_eq_true_of_le h]
    show _ = (((a % 256 + 4294967040 + 2147483648) % 4294967296 : Nat) : Int) - 2147483648
    omega
  · rw [show Nat.ble 128 (a % 256) = false by rw [← Bool.not_eq_true, Nat.ble_eq]; exact h]
    show _ = (((a % 256 + 2147483648) % 4294967296 : Nat) : Int) - 2147483648
    omega
theorem xn_char (a : Nat) : ((nI a).toUInt32 % 65536).toInt32 = nI (Nat.mod a 65536) := by
  rw [pk_char]
  show nI ((BitVec.ofNat 32 a).toNat % 65536) = nI (a % 65536)
  rw [BitVec.toNat_ofNat, show (2 : Nat) ^ 32 = 4294967296 by decide, Nat.mod_mod_of_dvd _ (by decide)]

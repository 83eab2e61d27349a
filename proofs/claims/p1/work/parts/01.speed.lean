/-! A speed trial: how many steps of a small machine the kernel does in a second -/
abbrev zV : Type := Sum Nat (Sum Nat Nat)
def zstrict {α : Type} (n : Nat) (k : Nat → α) : α := Nat.rec (motive := fun _ => α) (k 0) (fun m _ => k (Nat.succ m)) n
def zif {α : Type} (c : Bool) (a b : α) : α := Bool.rec (motive := fun _ => α) b a c
/-- perfect trees -/
def zBT (α : Type) : Nat → Type := Nat.rec α (fun _ T => T × T)
def zget {α : Type} (d : Nat) : zBT α d → Nat → α := Nat.rec (motive := fun d => zBT α d → Nat → α) (fun t _ => t) (fun _ ih t i => zif (Nat.beq (Nat.mod i 2) 0) (ih (Prod.fst t) (Nat.div i 2)) (ih (Prod.snd t) (Nat.div i 2))) d
def zsetK {α R : Type} (d : Nat) : zBT α d → Nat → α → (zBT α d → R) → R := Nat.rec (motive := fun d => zBT α d → Nat → α → (zBT α d → R) → R) (fun _ _ a k => k a) (fun _ ih t i a k => zif (Nat.beq (Nat.mod i 2) 0) (ih (Prod.fst t) (Nat.div i 2) a (fun l => k (l, Prod.snd t))) (ih (Prod.snd t) (Nat.div i 2) a (fun r => k (Prod.fst t, r)))) d
/-- state: heap, locals, stack, pc -/
abbrev zS : Type := zBT (Nat × Nat) 7 × (List zV × (List zV × Nat))
abbrev zH : Type := zBT (Nat × Nat) 7 → List zV → List zV → Nat → (zS → Option zS) → Option zS
def zgo (ih : zS → Option zS) (h : zBT (Nat × Nat) 7) (ls st : List zV) (pc : Nat) : Option zS := ih (h, (ls, (st, pc)))
def zloc (n : Nat) : List zV → zV := Nat.rec (motive := fun _ => List zV → zV) (fun ls => List.rec (motive := fun _ => zV) (Sum.inl 0) (fun a _ _ => a) ls) (fun _ ih ls => List.rec (motive := fun _ => zV) (Sum.inl 0) (fun _ t _ => ih t) ls) n
def zlsetK {R : Type} (n : Nat) : List zV → zV → (List zV → R) → R := Nat.rec (motive := fun _ => List zV → zV → (List zV → R) → R) (fun ls v k => List.rec (motive := fun _ => R) (k []) (fun _ t _ => k (v :: t)) ls) (fun _ ih ls v k => List.rec (motive := fun _ => R) (k []) (fun a t _ => ih t v (fun t' => k (a :: t'))) ls) n
def zpop (st : List zV) (k : zV → List zV → Option zS) : Option zS := List.rec (motive := fun _ => Option zS) none (fun a t _ => k a t) st
def zint (v : zV) (k : Nat → Option zS) : Option zS := Sum.rec (motive := fun _ => Option zS) k (fun _ => none) v
def zref (v : zV) (k : Nat → Option zS) : Option zS := Sum.rec (motive := fun _ => Option zS) (fun _ => none) (fun u => Sum.rec (motive := fun _ => Option zS) (fun _ => none) k u) v
def h_load (n : Nat) : zH := fun h ls st pc ih => zgo ih h ls (zloc n ls :: st) (Nat.add pc 1)
def h_store (n : Nat) : zH := fun h ls st pc ih => zpop st (fun v st => zlsetK n ls v (fun ls => zgo ih h ls st (Nat.add pc 1)))
def h_iconst (c : Nat) : zH := fun h ls st pc ih => zgo ih h ls (Sum.inl c :: st) (Nat.add pc 1)
def h_iadd : zH := fun h ls st pc ih => zpop st (fun b st => zpop st (fun a st => zint a (fun a => zint b (fun b => zstrict (Nat.mod (Nat.add a b) 4294967296) (fun c => zgo ih h ls (Sum.inl c :: st) (Nat.add pc 1))))))
def h_iinc (n c : Nat) : zH := fun h ls st pc ih => zint (zloc n ls) (fun a => zstrict (Nat.mod (Nat.add a c) 4294967296) (fun c => zlsetK n ls (Sum.inl c) (fun ls => zgo ih h ls st (Nat.add pc 1))))
def h_goto (t : Nat) : zH := fun h ls st _ ih => zgo ih h ls st t
def h_icmpge (t : Nat) : zH := fun h ls st pc ih => zpop st (fun b st => zpop st (fun a st => zint a (fun a => zint b (fun b => zif (Nat.ble b a) (zgo ih h ls st t) (zgo ih h ls st (Nat.add pc 1))))))
def h_iaload : zH := fun h ls st pc ih => zpop st (fun b st => zpop st (fun a st => zref a (fun r => zint b (fun i => zstrict (Nat.mod (Nat.shiftRight (Prod.snd (zget 7 h r)) (Nat.mul 32 i)) 4294967296) (fun v => zgo ih h ls (Sum.inl v :: st) (Nat.add pc 1))))))
def h_iastore : zH := fun h ls st pc ih => zpop st (fun v st => zpop st (fun b st => zpop st (fun a st => zref a (fun r => zint b (fun i => zint v (fun x => zstrict (Nat.add (Nat.sub (Prod.snd (zget 7 h r)) (Nat.shiftLeft (Nat.mod (Nat.shiftRight (Prod.snd (zget 7 h r)) (Nat.mul 32 i)) 4294967296) (Nat.mul 32 i))) (Nat.shiftLeft x (Nat.mul 32 i))) (fun D => zsetK 7 h r (Prod.fst (zget 7 h r), D) (fun h => zgo ih h ls st (Nat.add pc 1)))))))))
/-- for (i = 1; i < N; i++) a[i] = a[i - 1] + i; -/
def zcode : zBT zH 5 := 
  let n := h_goto 99
  ((((( h_load 0, h_iadd), (n, n)), ((h_iadd, n), (n, n))), (((h_load 0, n), (n, n)), ((n, n), (n, n)))), ((((n, n), (n, n)), ((n, n), (n, n))), (((n, n), (n, n)), ((n, n), (n, n)))))
def zprog : List zH := [h_load 1, h_load 2, h_icmpge 14, h_load 0, h_load 1, h_load 0, h_load 1, h_iconst 4294967295, h_iadd, h_iaload, h_load 1, h_iadd, h_iastore, h_iinc 1 1, h_goto 0]
def zfill (l : List zH) (i : Nat) : zH := l.getD i (h_goto 99)
def zmk (l : List zH) : zBT zH 4 := 
  ((((zfill l 0, zfill l 8), (zfill l 4, zfill l 12)), ((zfill l 2, zfill l 10), (zfill l 6, zfill l 14))), (((zfill l 1, zfill l 9), (zfill l 5, zfill l 13)), ((zfill l 3, zfill l 11), (zfill l 7, zfill l 15))))
def zprogT : zBT zH 4 := 
  ((((h_load 1, h_iadd), (h_load 1, h_iastore)), ((h_icmpge 14, h_load 1), (h_load 1, h_goto 0))), (((h_load 2, h_iaload), (h_load 0, h_iinc 1 1)), ((h_load 0, h_iadd), (h_iconst 4294967295, h_goto 14))))
def zrun (n : Nat) : zS → Option zS := Nat.rec (motive := fun _ => zS → Option zS) (fun s => some s) (fun _ ih s => zget 4 zprogT (Prod.snd (Prod.snd (Prod.snd s))) (Prod.fst s) (Prod.fst (Prod.snd s)) (Prod.fst (Prod.snd (Prod.snd s))) (Prod.snd (Prod.snd (Prod.snd s))) ih) n
def zempty : zBT (Nat × Nat) 7 := 
  let a := ((0, 0) : Nat × Nat)
  let b := (a, a)
  let c := (b, b)
  let d := (c, c)
  let e := (d, d)
  let f := (e, e)
  let g := (f, f)
  (g, g)
def zpc (o : Option zS) : Nat := Option.rec (motive := fun _ => Nat) 77 (fun s => Prod.snd (Prod.snd (Prod.snd s))) o
set_option maxRecDepth 100000 in
theorem zspeed : Nat.beq (zpc (zrun 15000 (zempty, ([Sum.inr (Sum.inr 5), Sum.inl 1, Sum.inl 1500], ([], 0))))) 6 = false := by decide +kernel

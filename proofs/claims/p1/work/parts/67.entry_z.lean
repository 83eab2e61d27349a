/-! What holds where the law begins: by a program (wip/p1/genentry.py). -/
theorem st_mem {T : Cond} {P K : Nat} {L : List Cond} (h : ((flatC T).drop P).take K = L) {w : Cond} (hw : w ∈ L) : w ∈ flatC T := List.mem_of_mem_drop (List.mem_of_mem_take (h ▸ hw))
noncomputable def stL (own : String) (k L B : Nat) : List Cond := [Cond.exactly (.string own k) "java/lang/String", Cond.eq (.field (.string own k) "java/lang/String" "code\x72" "B") (.int 0), Cond.arrayOf (.field (.string own k) "java/lang/String" "value" "[B") .byte, Cond.eq (.length (.field (.string own k) "java/lang/String" "value" "[B")) (.int (Int32.ofNat L))] ++ (List.range L).map (fun j => Cond.eq (.elem (.field (.string own k) "java/lang/String" "value" "[B") (.int (Int32.ofNat j))) (.int (nI (xdg 8 256 B j))))
theorem st_facts {args : Array Value} {s : State} {A : Nat → Prop} (hA : ∀ a : Nat, a < s.heap.size → ¬ A a) {own : String} {k L B : Nat} (h : ∀ w ∈ stL own k L B, w.before args s = true) (hL : L < 2 ^ 31) :
    ∃ q : Nat × Nat, (Term.string own k).eval args s none [] s = some (.ref q.1) ∧ va_O "java/lang/String" q.1 A s s.heap ∧ va_OF "java/lang/String" "code\x72" "B" (.int 0) q.1 A s s.heap ∧ va_OF "java/lang/String" "value" "[B" (.ref q.2) q.1 A s s.heap ∧ va_T .byte q.2 L (fun i => .int (nI (xdg 8 256 B i))) A s s.heap := by
  have hg : ∀ j, j < L → ((List.range L).map fun j => nI (xdg 8 256 B j)).getD j 0 = nI (xdg 8 256 B j) := fun j hj => by
    rw [List.getD_eq_getElem?_getD, List.getElem?_map, List.getElem?_range hj]
    rfl
  obtain ⟨adK, adV, ⟨h1, -⟩, h2⟩ := vk_Sof (N := 1) (args := args) (s := s) (tm := fun _ => Term.string own k) (len := [L]) (byt := [(List.range L).map fun j => nI (xdg 8 256 B j)]) (A := A)
    (fun i hi => by rw [show i = 0 by omega]; exact hL)
    (fun i hi => h _ (List.mem_append_left _ (List.mem_of_getElem? (i := 0) rfl)))
    (fun i hi => h _ (List.mem_append_left _ (List.mem_of_getElem? (i := 1) rfl)))
    (fun i hi => h _ (List.mem_append_left _ (List.mem_of_getElem? (i := 2) rfl)))
    (fun i hi => by rw [show i = 0 by omega]; exact h _ (List.mem_append_left _ (List.mem_of_getElem? (i := 3) rfl)))
    (fun i hi j hj => by
      have hi0 : i = 0 := by omega
      subst hi0
      have hj2 : j < L := hj
      show (Cond.eq _ (.int (((List.range L).map fun j => nI (xdg 8 256 B j)).getD j 0))).before args s = true
      rw [hg j hj2]
      exact h _ (List.mem_append_right _ (List.mem_map.mpr ⟨j, List.mem_range.mpr hj2, rfl⟩)))
    (fun i j hi hj hne => absurd (show i = j by omega) hne) hA
  obtain ⟨f1, f2, f3, f4⟩ := h1 0 (by decide)
  refine ⟨(adK 0, adV 0), h2 0 (by decide), f1, f2, f3, ?_⟩
  obtain ⟨cell, t1, t2, t3, t4, t5, t6, t7⟩ := f4
  exact ⟨cell, t1, t2, t3, t4, t5, fun j hj => by
    have h9 := t6 j hj
    show cell.slots[j]? = some (.int (nI (xdg 8 256 B j)))
    rw [← hg j hj]
    exact h9, t7⟩
set_option maxRecDepth 100000 in
theorem st_0 : ((flatC (Cond.and given_1 narrow_1)).drop 274).take 115 = stL "ChoiceTongue" 84 (Prod.fst txz_0) (Prod.snd txz_0) := by decide +kernel
theorem sw_0 : Cond.stringRef "ChoiceTongue" 84 "case data else fcase free if in infix infixl infixr let of set then where = | -> :: \\ @ : _ Int () (,) (,,) [] " ∈ lw_tbl := sub_4 (List.mem_of_getElem? (i := 188) rfl)
set_option maxRecDepth 100000 in
theorem st_1 : ((flatC (Cond.and given_1 narrow_1)).drop 389).take 1178 = stL "ChoiceTongue" 98 (Prod.fst txz_1) (Prod.snd txz_1) := by decide +kernel
theorem sw_1 : Cond.stringRef "ChoiceTongue" 98 "infixr 9 .\ninfixl 7 *, `div`, `mod`\ninfixl 6 +, -\ninfixr 5 ++\ninfix 4 ==, /=, <, <=, >, >=, =:=\ninfixr 3 &&\ninfixr 2 ||\ninfixr 1 &, &>\ninfixr 0 $, ?\ndata Bool = False | True\n(+) :: Int -> Int -> Int\n(-) :: Int -> Int -> Int\n(*) :: Int -> Int -> Int\ndiv :: Int -> Int -> Int\nmod :: Int -> Int -> Int\n(==) :: a -> a -> Bool\n(/=) :: a -> a -> Bool\n(<) :: Int -> Int -> Bool\n(<=) :: Int -> Int -> Bool\n(>) :: Int -> Int -> Bool\n(>=) :: Int -> Int -> Bool\n(=:=) :: a -> a -> Bool\n(&) :: Bool -> Bool -> Bool\nspan :: Int -> Int -> Int -> Bool\natMost :: [Int] -> [Int] -> Int -> Bool\nequalTo :: [Int] -> [Int] -> Int -> Bool\ndiffer :: [Int] -> Bool\nlabel :: [Int] -> Bool\n(?) :: a -> a -> a\nx ? _ = x\n_ ? y = y\n(&&) :: Bool -> Bool -> Bool\nTrue && x = x\nFalse && _ = False\n(||) :: Bool -> Bool -> Bool\nTrue || _ = True\nFalse || x = x\nnot :: Bool -> Bool\nnot True = False\nnot False = True\n(&>) :: Bool -> a -> a\nTrue &> x = x\n($) :: (a -> b) -> a -> b\nf $ x = f x\n(.) :: (b -> c) -> (a -> b) -> a -> c\nf . g = \\x -> f (g x)\n(++) :: [a] -> [a] -> [a]\n[] ++ ys = ys\n(x : xs) ++ ys = x : xs ++ ys\nmap :: (a -> b) -> [a] -> [b]\nmap _ [] = []\nmap f (x : xs) = f x : map f xs\nfailed :: a\n" ∈ lw_tbl := sub_5 (List.mem_of_getElem? (i := 19) rfl)
set_option maxRecDepth 100000 in
theorem st_2 : ((flatC (Cond.and given_1 narrow_1)).drop 1568).take 24 = stL "ChoiceTongue$Lexe\x72" 103 (Prod.fst txz_2) (Prod.snd txz_2) := by decide +kernel
theorem sw_2 : Cond.stringRef "ChoiceTongue$Lexe\x72" 103 "!#$%&*+./:<=>?@\\^|-~" ∈ lw_tbl := sub_5 (List.mem_of_getElem? (i := 48) rfl)
set_option maxRecDepth 100000 in
theorem st_3 : ((flatC (Cond.and given_1 narrow_1)).drop 1594).take 13 = stL "ChoiceTongue$Lexe\x72" 83 (Prod.fst txz_3) (Prod.snd txz_3) := by decide +kernel
theorem sw_3 : Cond.stringRef "ChoiceTongue$Lexe\x72" 83 "()[]{},;`" ∈ lw_tbl := sub_5 (List.mem_of_getElem? (i := 131) rfl)
set_option maxRecDepth 100000 in
theorem st_4 : ((flatC (Cond.and given_1 narrow_1)).drop 3024).take 4 = stL "ChoiceTongueModel" 1602 (Prod.fst txz_4) (Prod.snd txz_4) := by decide +kernel
theorem sw_4 : Cond.stringRef "ChoiceTongueModel" 1602 "" ∈ lw_tbl := sub_21 (List.mem_of_getElem? (i := 76) rfl)
set_option maxRecDepth 100000 in
theorem st_5 : ((flatC (Cond.and given_1 narrow_1)).drop 3041).take 8 = stL "ChoiceTongueModel" 1604 (Prod.fst txz_5) (Prod.snd txz_5) := by decide +kernel
theorem sw_5 : Cond.stringRef "ChoiceTongueModel" 1604 " -> " ∈ lw_tbl := sub_21 (List.mem_of_getElem? (i := 77) rfl)
set_option maxRecDepth 100000 in
theorem st_6 : ((flatC (Cond.and given_1 narrow_1)).drop 3156).take 6 = stL "ChoiceTongueModel" 1617 (Prod.fst txz_6) (Prod.snd txz_6) := by decide +kernel
theorem sw_6 : Cond.stringRef "ChoiceTongueModel" 1617 "[]" ∈ lw_tbl := sub_21 (List.mem_of_getElem? (i := 101) rfl)
set_option maxRecDepth 100000 in
theorem st_7 : ((flatC (Cond.and given_1 narrow_1)).drop 2860).take 24 = stL "ChoiceTongueModel" 66 (Prod.fst txz_7) (Prod.snd txz_7) := by decide +kernel
theorem sw_7 : Cond.stringRef "ChoiceTongueModel" 66 "!#$%&*+./:<=>?@\\^|-~" ∈ lw_tbl := sub_14 (List.mem_of_getElem? (i := 21) rfl)
set_option maxRecDepth 100000 in
theorem st_8 : ((flatC (Cond.and given_1 narrow_1)).drop 2981).take 13 = stL "ChoiceTongueModel" 116 (Prod.fst txz_8) (Prod.snd txz_8) := by decide +kernel
theorem sw_8 : Cond.stringRef "ChoiceTongueModel" 116 "()[]{},;`" ∈ lw_tbl := sub_14 (List.mem_of_getElem? (i := 61) rfl)
set_option maxRecDepth 100000 in
theorem st_9 : ((flatC (Cond.and given_1 narrow_1)).drop 3005).take 7 = stL "ChoiceTongueModel" 1597 (Prod.fst txz_9) (Prod.snd txz_9) := by decide +kernel
theorem sw_9 : Cond.stringRef "ChoiceTongueModel" 1597 "Int" ∈ lw_tbl := sub_21 (List.mem_of_getElem? (i := 67) rfl)
set_option maxRecDepth 100000 in
theorem st_10 : ((flatC (Cond.and given_1 narrow_1)).drop 1674).take 1178 = stL "ChoiceTongueModel" 733 (Prod.fst txz_10) (Prod.snd txz_10) := by decide +kernel
theorem sw_10 : Cond.stringRef "ChoiceTongueModel" 733 "infixr 9 .\ninfixl 7 *, `div`, `mod`\ninfixl 6 +, -\ninfixr 5 ++\ninfix 4 ==, /=, <, <=, >, >=, =:=\ninfixr 3 &&\ninfixr 2 ||\ninfixr 1 &, &>\ninfixr 0 $, ?\ndata Bool = False | True\n(+) :: Int -> Int -> Int\n(-) :: Int -> Int -> Int\n(*) :: Int -> Int -> Int\ndiv :: Int -> Int -> Int\nmod :: Int -> Int -> Int\n(==) :: a -> a -> Bool\n(/=) :: a -> a -> Bool\n(<) :: Int -> Int -> Bool\n(<=) :: Int -> Int -> Bool\n(>) :: Int -> Int -> Bool\n(>=) :: Int -> Int -> Bool\n(=:=) :: a -> a -> Bool\n(&) :: Bool -> Bool -> Bool\nspan :: Int -> Int -> Int -> Bool\natMost :: [Int] -> [Int] -> Int -> Bool\nequalTo :: [Int] -> [Int] -> Int -> Bool\ndiffer :: [Int] -> Bool\nlabel :: [Int] -> Bool\n(?) :: a -> a -> a\nx ? _ = x\n_ ? y = y\n(&&) :: Bool -> Bool -> Bool\nTrue && x = x\nFalse && _ = False\n(||) :: Bool -> Bool -> Bool\nTrue || _ = True\nFalse || x = x\nnot :: Bool -> Bool\nnot True = False\nnot False = True\n(&>) :: Bool -> a -> a\nTrue &> x = x\n($) :: (a -> b) -> a -> b\nf $ x = f x\n(.) :: (b -> c) -> (a -> b) -> a -> c\nf . g = \\x -> f (g x)\n(++) :: [a] -> [a] -> [a]\n[] ++ ys = ys\n(x : xs) ++ ys = x : xs ++ ys\nmap :: (a -> b) -> [a] -> [b]\nmap _ [] = []\nmap f (x : xs) = f x : map f xs\nfailed :: a\n" ∈ lw_tbl := sub_13 (List.mem_of_getElem? (i := 239) rfl)
set_option maxRecDepth 100000 in
theorem st_11 : ((flatC (Cond.and given_1 narrow_1)).drop 2893).take 78 = stL "ChoiceTongueModel" 118 (Prod.fst txz_11) (Prod.snd txz_11) := by decide +kernel
theorem sw_11 : Cond.stringRef "ChoiceTongueModel" 118 "case data else fcase free if in infix infixl infixr let of set then where " ∈ lw_tbl := sub_14 (List.mem_of_getElem? (i := 47) rfl)
/-- the texts: whose, which -/
noncomputable def STo (j : Nat) : String := ["ChoiceTongue", "ChoiceTongue", "ChoiceTongue$Lexe\x72", "ChoiceTongue$Lexe\x72", "ChoiceTongueModel", "ChoiceTongueModel", "ChoiceTongueModel", "ChoiceTongueModel", "ChoiceTongueModel", "ChoiceTongueModel", "ChoiceTongueModel", "ChoiceTongueModel"].getD j ""
noncomputable def STk (j : Nat) : Nat := [84, 98, 103, 83, 1602, 1604, 1617, 66, 116, 1597, 733, 118].getD j 0
theorem st_all {args : Array Value} {s : State} {A : Nat → Prop} (hA : ∀ a : Nat, a < s.heap.size → ¬ A a) (hg : ∀ w ∈ flatC (Cond.and given_1 narrow_1), w.before args s = true) : ∀ j, ∃ q : Nat × Nat, j < 12 → (Term.string (STo j) (STk j)).eval args s none [] s = some (.ref q.1) ∧ va_O "java/lang/String" q.1 A s s.heap ∧ va_OF "java/lang/String" "code\x72" "B" (.int 0) q.1 A s s.heap ∧ va_OF "java/lang/String" "value" "[B" (.ref q.2) q.1 A s s.heap ∧ va_T .byte q.2 (Prod.fst (xget 5 TTz j)) (fun i => .int (nI (xdg 8 256 (Prod.snd (xget 5 TTz j)) i))) A s s.heap := fun j =>
  match j with
  | 0 => by
    obtain ⟨q, hq⟩ := st_facts hA (fun w hw => hg w (st_mem st_0 hw)) (by decide +kernel)
    exact ⟨q, fun _ => hq⟩
  | 1 => by
    obtain ⟨q, hq⟩ := st_facts hA (fun w hw => hg w (st_mem st_1 hw)) (by decide +kernel)
    exact ⟨q, fun _ => hq⟩
  | 2 => by
    obtain ⟨q, hq⟩ := st_facts hA (fun w hw => hg w (st_mem st_2 hw)) (by decide +kernel)
    exact ⟨q, fun _ => hq⟩
  | 3 => by
    obtain ⟨q, hq⟩ := st_facts hA (fun w hw => hg w (st_mem st_3 hw)) (by decide +kernel)
    exact ⟨q, fun _ => hq⟩
  | 4 => by
    obtain ⟨q, hq⟩ := st_facts hA (fun w hw => hg w (st_mem st_4 hw)) (by decide +kernel)
    exact ⟨q, fun _ => hq⟩
  | 5 => by
    obtain ⟨q, hq⟩ := st_facts hA (fun w hw => hg w (st_mem st_5 hw)) (by decide +kernel)
    exact ⟨q, fun _ => hq⟩
  | 6 => by
    obtain ⟨q, hq⟩ := st_facts hA (fun w hw => hg w (st_mem st_6 hw)) (by decide +kernel)
    exact ⟨q, fun _ => hq⟩
  | 7 => by
    obtain ⟨q, hq⟩ := st_facts hA (fun w hw => hg w (st_mem st_7 hw)) (by decide +kernel)
    exact ⟨q, fun _ => hq⟩
  | 8 => by
    obtain ⟨q, hq⟩ := st_facts hA (fun w hw => hg w (st_mem st_8 hw)) (by decide +kernel)
    exact ⟨q, fun _ => hq⟩
  | 9 => by
    obtain ⟨q, hq⟩ := st_facts hA (fun w hw => hg w (st_mem st_9 hw)) (by decide +kernel)
    exact ⟨q, fun _ => hq⟩
  | 10 => by
    obtain ⟨q, hq⟩ := st_facts hA (fun w hw => hg w (st_mem st_10 hw)) (by decide +kernel)
    exact ⟨q, fun _ => hq⟩
  | 11 => by
    obtain ⟨q, hq⟩ := st_facts hA (fun w hw => hg w (st_mem st_11 hw)) (by decide +kernel)
    exact ⟨q, fun _ => hq⟩
  | j + 12 => ⟨(0, 0), fun h => absurd h (by omega)⟩
/-- what stays as it was while the systems work -/
def ExZ (base : Nat) (adS : Nat → Nat) (U : State) (H : Heap) : Prop :=
  (∀ j, j < 12 → va_O "java/lang/String" (adS j) (fun q => base ≤ q) U H ∧ va_OF "java/lang/String" "code\x72" "B" (.int 0) (adS j) (fun q => base ≤ q) U H ∧ va_OF "java/lang/String" "value" "[B" (.ref (adS (100 + j))) (adS j) (fun q => base ≤ q) U H ∧ va_T .byte (adS (100 + j)) (Prod.fst (xget 5 TTz j)) (fun i => .int (nI (xdg 8 256 (Prod.snd (xget 5 TTz j)) i))) (fun q => base ≤ q) U H) ∧
  va_Zq "jdk/internal/util/Preconditions" "SIOOBE_FORMATTER" "Ljava/util/function/BiFunction;" (fun q => base ≤ q) U H ∧ va_Z "java/lang/String" "COMPACT_STRINGS" "Z" (.int 1) (fun q => base ≤ q) U H ∧
  (∀ (own : String) (index : Nat) (y : MethodName) (host : String), (own, index, y, host) ∈ NWz → va_Nw (.methodLinkNest own index y host) U) ∧ va_Nw (.arrayOver (.array .int)) U ∧
  (∀ (own : String) (index j : Nat) (tx : String), (own, index, j, tx) ∈ SRz → vk_R own index tx (adS j) U) ∧ xThr base U H
theorem ExZ.kept {base : Nat} {adS : Nat → Nat} {U : State} {H H1 : Heap} (h : ExZ base adS U H) (hq : ∀ a : Nat, a < H.size → ¬ base ≤ a → H1[a]? = H[a]?) : ExZ base adS U H1 := by
  obtain ⟨h1, h2, h3, h4, h5, h6, h7⟩ := h
  exact ⟨fun j hj => ⟨(h1 j hj).1.kept hq, (h1 j hj).2.1.kept hq, (h1 j hj).2.2.1.kept hq, (h1 j hj).2.2.2.kept hq⟩, h2.kept hq, h3.kept hq, h4, h5, h6, h7.kept hq⟩
theorem ExZ.warm {base : Nat} {adS : Nat → Nat} {u U : State} {H : Heap} (hW : u.WarmedH U.vm) (h : ExZ base adS u H) : ExZ base adS U H := by
  obtain ⟨h1, h2, h3, h4, h5, h6, h7⟩ := h
  exact ⟨fun j hj => ⟨(h1 j hj).1.moved hW.alike, (h1 j hj).2.1.moved hW.alike, (h1 j hj).2.2.1.moved hW.alike, (h1 j hj).2.2.2.moved hW.alike⟩, h2.moved hW.alike, h3.moved hW.alike, fun a b c d hm => (h4 a b c d hm).warmM hW, over_moved hW.alike h5, fun a b c d hm => (h6 a b c d hm).warm hW, h7.warm hW⟩
theorem ExZ.same {base : Nat} {adS : Nat → Nat} {u U : State} {H : Heap} (hv : U.vm = u.vm) (h : ExZ base adS u H) : ExZ base adS U H := by
  obtain ⟨h1, h2, h3, h4, h5, h6, h7⟩ := h
  have hal : u.vm.Alike U.vm := by rw [hv]; exact Vm.Alike.refl u.vm
  exact ⟨fun j hj => ⟨(h1 j hj).1.moved hal, (h1 j hj).2.1.moved hal, (h1 j hj).2.2.1.moved hal, (h1 j hj).2.2.2.moved hal⟩, h2.moved hal, h3.moved hal, fun a b c d hm => (h4 a b c d hm).same rfl hv.symm, over_moved hal h5, fun a b c d hm => (h6 a b c d hm).same hv, h7.same hv⟩
noncomputable def tysZ (cA : Nat → Nat) : List (ClassId × FieldType) := [(cA 0, .int), (cA 1, .byte), (cA 2, .boolean), (cA 3, .long), (cA 4, .array .int)]
theorem hyZ {cA : Nat → Nat} {base : Nat} {adS : Nat → Nat} : Hyz (tysZ cA) cA base adS (ExZ base adS) := ⟨rfl, rfl, rfl, rfl, fun U H H1 h hq => h.kept hq, fun u U H hW h => h.warm hW, fun u U H hv h => h.same hv, fun s h => h.1, fun s h => h.2.1, fun s h => h.2.2.1, fun a b c d hm s h => h.2.2.2.2.2.1 a b c d hm, fun a b c d hm s h => h.2.2.2.1 a b c d hm, rfl, fun s h => h.2.2.2.2.1⟩
theorem hThZ {base : Nat} {adS : Nat → Nat} : ∀ s : State, ExZ base adS s s.heap → xThr base s s.heap := fun s h => h.2.2.2.2.2.2

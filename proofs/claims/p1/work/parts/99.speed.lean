/-! speed -/
noncomputable def zz_b0 : xB 7 := fun dl fs ih => h_iload 1 (h_iload 2 (h_if2 tq_ge (xgo 1 dl fs ih) (h_aload 0 (h_iload 1 (h_aload 0 (h_iload 1 (h_iconst 4294967295 (h_bin f_add (h_ald 0 (h_iload 1 (h_bin f_add (h_ast 0 f_id (h_iinc 1 1 (xgo 0 dl fs ih))))))))))))))
noncomputable def zz_b1 : xB 7 := fun dl fs ih => h_ret dl fs ih
noncomputable def zz_code : xBT (xB 7) 1 := (zz_b0, zz_b1)
noncomputable def zz_c : xC := (7, (0, 0))
noncomputable def zz_t1 : xBT xC 1 := (zz_c, zz_c)
noncomputable def zz_t2 : xBT xC 2 := (zz_t1, zz_t1)
noncomputable def zz_t3 : xBT xC 3 := (zz_t2, zz_t2)
noncomputable def zz_t4 : xBT xC 4 := (zz_t3, zz_t3)
noncomputable def zz_t5 : xBT xC 5 := (zz_t4, zz_t4)
noncomputable def zz_t6 : xBT xC 6 := (zz_t5, zz_t5)
noncomputable def zz_t7 : xBT xC 7 := xset 7 (zz_t6, zz_t6) 5 (0, (2000, 0))
noncomputable def zz_out (r : xR 7) : Nat := Option.rec (motive := fun _ => Nat) 77 (fun q => xd4 (Prod.snd (Prod.snd (xget 7 (Prod.fst (Prod.snd q)) 5))) 149) r
set_option maxRecDepth 100000 in
theorem zz_speed : Nat.beq (zz_out (xrun zz_code 2000 (zz_t7, ((6, 0), (5, ((0, ([some (Sum.inr (Sum.inr 6)), some (Sum.inl 1), some (Sum.inl 150)], [])), [])))))) 11175 = true := by decide +kernel

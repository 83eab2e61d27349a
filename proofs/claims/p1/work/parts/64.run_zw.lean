/-! The short calls on the fresh pair: by a program (wip/p1/genrunz.py). -/
noncomputable def HZ : xBT xC 9 := hpz_2542
set_option maxRecDepth 100000 in
theorem same_fault : xsame codez 3000 255 HZ 113 22 (42, [some (.inr (.inr 1))]) (1626, [some (.inr (.inr 114))]) = true := by decide +kernel
set_option maxRecDepth 100000 in
theorem same_end : xsame codez 3000 255 HZ 113 22 (23, [some (.inr (.inr 1)), some (.inl 0)]) (1592, [some (.inr (.inr 114)), some (.inl 0)]) = true := by decide +kernel
set_option maxRecDepth 100000 in
theorem same_count : ∀ a, a < 14 → xsame codez 3000 255 HZ 113 22 (15, [some (.inr (.inr 1)), some (.inl a)]) (1493, [some (.inr (.inr 114)), some (.inl a), none]) = true := by decide +kernel
set_option maxRecDepth 100000 in
theorem same_fact : ∀ a, a < 28 → ∀ b, b < 6 → xsame codez 3000 255 HZ 113 22 (26, [some (.inr (.inr 1)), some (.inl a), some (.inl b), none]) (1604, [some (.inr (.inr 114)), some (.inl a), some (.inl b), none]) = true := by decide +kernel
theorem same_show_0_0 : xsame codez 3000 255 HZ 113 22 (78, [some (.inr (.inr 1)), some (.inl 0), some (.inl 0)]) (2127, [some (.inr (.inr 114)), some (.inl 0), some (.inl 0), none]) = true := by decide +kernel
theorem same_show_0_1 : xsame codez 3000 255 HZ 113 22 (78, [some (.inr (.inr 1)), some (.inl 0), some (.inl 1)]) (2127, [some (.inr (.inr 114)), some (.inl 0), some (.inl 1), none]) = true := by decide +kernel
theorem same_show_0_2 : xsame codez 3000 255 HZ 113 22 (78, [some (.inr (.inr 1)), some (.inl 0), some (.inl 2)]) (2127, [some (.inr (.inr 114)), some (.inl 0), some (.inl 2), none]) = true := by decide +kernel
theorem same_show_0_3 : xsame codez 3000 255 HZ 113 22 (78, [some (.inr (.inr 1)), some (.inl 0), some (.inl 3)]) (2127, [some (.inr (.inr 114)), some (.inl 0), some (.inl 3), none]) = true := by decide +kernel
theorem same_show_0_4 : xsame codez 3000 255 HZ 113 22 (78, [some (.inr (.inr 1)), some (.inl 0), some (.inl 4)]) (2127, [some (.inr (.inr 114)), some (.inl 0), some (.inl 4), none]) = true := by decide +kernel
theorem same_show_0_5 : xsame codez 3000 255 HZ 113 22 (78, [some (.inr (.inr 1)), some (.inl 0), some (.inl 5)]) (2127, [some (.inr (.inr 114)), some (.inl 0), some (.inl 5), none]) = true := by decide +kernel
theorem same_show_0_6 : xsame codez 3000 255 HZ 113 22 (78, [some (.inr (.inr 1)), some (.inl 0), some (.inl 6)]) (2127, [some (.inr (.inr 114)), some (.inl 0), some (.inl 6), none]) = true := by decide +kernel
theorem same_show_0_7 : xsame codez 3000 255 HZ 113 22 (78, [some (.inr (.inr 1)), some (.inl 0), some (.inl 7)]) (2127, [some (.inr (.inr 114)), some (.inl 0), some (.inl 7), none]) = true := by decide +kernel
theorem same_show_0_8 : xsame codez 3000 255 HZ 113 22 (78, [some (.inr (.inr 1)), some (.inl 0), some (.inl 8)]) (2127, [some (.inr (.inr 114)), some (.inl 0), some (.inl 8), none]) = true := by decide +kernel
theorem same_show_0_9 : xsame codez 3000 255 HZ 113 22 (78, [some (.inr (.inr 1)), some (.inl 0), some (.inl 9)]) (2127, [some (.inr (.inr 114)), some (.inl 0), some (.inl 9), none]) = true := by decide +kernel
theorem same_show_0_10 : xsame codez 3000 255 HZ 113 22 (78, [some (.inr (.inr 1)), some (.inl 0), some (.inl 10)]) (2127, [some (.inr (.inr 114)), some (.inl 0), some (.inl 10), none]) = true := by decide +kernel
theorem same_show_0_11 : xsame codez 3000 255 HZ 113 22 (78, [some (.inr (.inr 1)), some (.inl 0), some (.inl 11)]) (2127, [some (.inr (.inr 114)), some (.inl 0), some (.inl 11), none]) = true := by decide +kernel
theorem same_show_0_12 : xsame codez 3000 255 HZ 113 22 (78, [some (.inr (.inr 1)), some (.inl 0), some (.inl 12)]) (2127, [some (.inr (.inr 114)), some (.inl 0), some (.inl 12), none]) = true := by decide +kernel
theorem same_show_0_13 : xsame codez 3000 255 HZ 113 22 (78, [some (.inr (.inr 1)), some (.inl 0), some (.inl 13)]) (2127, [some (.inr (.inr 114)), some (.inl 0), some (.inl 13), none]) = true := by decide +kernel
theorem same_show_0_14 : xsame codez 3000 255 HZ 113 22 (78, [some (.inr (.inr 1)), some (.inl 0), some (.inl 14)]) (2127, [some (.inr (.inr 114)), some (.inl 0), some (.inl 14), none]) = true := by decide +kernel
theorem same_show_0_15 : xsame codez 3000 255 HZ 113 22 (78, [some (.inr (.inr 1)), some (.inl 0), some (.inl 15)]) (2127, [some (.inr (.inr 114)), some (.inl 0), some (.inl 15), none]) = true := by decide +kernel
theorem same_show_0_16 : xsame codez 3000 255 HZ 113 22 (78, [some (.inr (.inr 1)), some (.inl 0), some (.inl 16)]) (2127, [some (.inr (.inr 114)), some (.inl 0), some (.inl 16), none]) = true := by decide +kernel
theorem same_show_0_17 : xsame codez 3000 255 HZ 113 22 (78, [some (.inr (.inr 1)), some (.inl 0), some (.inl 17)]) (2127, [some (.inr (.inr 114)), some (.inl 0), some (.inl 17), none]) = true := by decide +kernel
theorem same_show_0_18 : xsame codez 3000 255 HZ 113 22 (78, [some (.inr (.inr 1)), some (.inl 0), some (.inl 18)]) (2127, [some (.inr (.inr 114)), some (.inl 0), some (.inl 18), none]) = true := by decide +kernel
theorem same_show_0_19 : xsame codez 3000 255 HZ 113 22 (78, [some (.inr (.inr 1)), some (.inl 0), some (.inl 19)]) (2127, [some (.inr (.inr 114)), some (.inl 0), some (.inl 19), none]) = true := by decide +kernel
theorem same_show_0_20 : xsame codez 3000 255 HZ 113 22 (78, [some (.inr (.inr 1)), some (.inl 0), some (.inl 20)]) (2127, [some (.inr (.inr 114)), some (.inl 0), some (.inl 20), none]) = true := by decide +kernel
theorem same_show_0_21 : xsame codez 3000 255 HZ 113 22 (78, [some (.inr (.inr 1)), some (.inl 0), some (.inl 21)]) (2127, [some (.inr (.inr 114)), some (.inl 0), some (.inl 21), none]) = true := by decide +kernel
theorem same_show_0_22 : xsame codez 3000 255 HZ 113 22 (78, [some (.inr (.inr 1)), some (.inl 0), some (.inl 22)]) (2127, [some (.inr (.inr 114)), some (.inl 0), some (.inl 22), none]) = true := by decide +kernel
theorem same_show_0_23 : xsame codez 3000 255 HZ 113 22 (78, [some (.inr (.inr 1)), some (.inl 0), some (.inl 23)]) (2127, [some (.inr (.inr 114)), some (.inl 0), some (.inl 23), none]) = true := by decide +kernel
theorem same_show_0_24 : xsame codez 3000 255 HZ 113 22 (78, [some (.inr (.inr 1)), some (.inl 0), some (.inl 24)]) (2127, [some (.inr (.inr 114)), some (.inl 0), some (.inl 24), none]) = true := by decide +kernel
theorem same_show_0_25 : xsame codez 3000 255 HZ 113 22 (78, [some (.inr (.inr 1)), some (.inl 0), some (.inl 25)]) (2127, [some (.inr (.inr 114)), some (.inl 0), some (.inl 25), none]) = true := by decide +kernel
theorem same_show_0_26 : xsame codez 3000 255 HZ 113 22 (78, [some (.inr (.inr 1)), some (.inl 0), some (.inl 26)]) (2127, [some (.inr (.inr 114)), some (.inl 0), some (.inl 26), none]) = true := by decide +kernel
theorem same_show_0_27 : xsame codez 3000 255 HZ 113 22 (78, [some (.inr (.inr 1)), some (.inl 0), some (.inl 27)]) (2127, [some (.inr (.inr 114)), some (.inl 0), some (.inl 27), none]) = true := by decide +kernel
theorem same_show_0 : ∀ a, a < 28 → xsame codez 3000 255 HZ 113 22 (78, [some (.inr (.inr 1)), some (.inl 0), some (.inl a)]) (2127, [some (.inr (.inr 114)), some (.inl 0), some (.inl a), none]) = true := fun a ha => match a, ha with
  | 0, _ => same_show_0_0
  | 1, _ => same_show_0_1
  | 2, _ => same_show_0_2
  | 3, _ => same_show_0_3
  | 4, _ => same_show_0_4
  | 5, _ => same_show_0_5
  | 6, _ => same_show_0_6
  | 7, _ => same_show_0_7
  | 8, _ => same_show_0_8
  | 9, _ => same_show_0_9
  | 10, _ => same_show_0_10
  | 11, _ => same_show_0_11
  | 12, _ => same_show_0_12
  | 13, _ => same_show_0_13
  | 14, _ => same_show_0_14
  | 15, _ => same_show_0_15
  | 16, _ => same_show_0_16
  | 17, _ => same_show_0_17
  | 18, _ => same_show_0_18
  | 19, _ => same_show_0_19
  | 20, _ => same_show_0_20
  | 21, _ => same_show_0_21
  | 22, _ => same_show_0_22
  | 23, _ => same_show_0_23
  | 24, _ => same_show_0_24
  | 25, _ => same_show_0_25
  | 26, _ => same_show_0_26
  | 27, _ => same_show_0_27
  | a + 28, h => absurd h (by omega)
theorem same_show_1_0 : xsame codez 3000 255 HZ 113 22 (78, [some (.inr (.inr 1)), some (.inl 1), some (.inl 0)]) (2127, [some (.inr (.inr 114)), some (.inl 1), some (.inl 0), none]) = true := by decide +kernel
theorem same_show_1_1 : xsame codez 3000 255 HZ 113 22 (78, [some (.inr (.inr 1)), some (.inl 1), some (.inl 1)]) (2127, [some (.inr (.inr 114)), some (.inl 1), some (.inl 1), none]) = true := by decide +kernel
theorem same_show_1_2 : xsame codez 3000 255 HZ 113 22 (78, [some (.inr (.inr 1)), some (.inl 1), some (.inl 2)]) (2127, [some (.inr (.inr 114)), some (.inl 1), some (.inl 2), none]) = true := by decide +kernel
theorem same_show_1_3 : xsame codez 3000 255 HZ 113 22 (78, [some (.inr (.inr 1)), some (.inl 1), some (.inl 3)]) (2127, [some (.inr (.inr 114)), some (.inl 1), some (.inl 3), none]) = true := by decide +kernel
theorem same_show_1_4 : xsame codez 3000 255 HZ 113 22 (78, [some (.inr (.inr 1)), some (.inl 1), some (.inl 4)]) (2127, [some (.inr (.inr 114)), some (.inl 1), some (.inl 4), none]) = true := by decide +kernel
theorem same_show_1_5 : xsame codez 3000 255 HZ 113 22 (78, [some (.inr (.inr 1)), some (.inl 1), some (.inl 5)]) (2127, [some (.inr (.inr 114)), some (.inl 1), some (.inl 5), none]) = true := by decide +kernel
theorem same_show_1_6 : xsame codez 3000 255 HZ 113 22 (78, [some (.inr (.inr 1)), some (.inl 1), some (.inl 6)]) (2127, [some (.inr (.inr 114)), some (.inl 1), some (.inl 6), none]) = true := by decide +kernel
theorem same_show_1_7 : xsame codez 3000 255 HZ 113 22 (78, [some (.inr (.inr 1)), some (.inl 1), some (.inl 7)]) (2127, [some (.inr (.inr 114)), some (.inl 1), some (.inl 7), none]) = true := by decide +kernel
theorem same_show_1_8 : xsame codez 3000 255 HZ 113 22 (78, [some (.inr (.inr 1)), some (.inl 1), some (.inl 8)]) (2127, [some (.inr (.inr 114)), some (.inl 1), some (.inl 8), none]) = true := by decide +kernel
theorem same_show_1_9 : xsame codez 3000 255 HZ 113 22 (78, [some (.inr (.inr 1)), some (.inl 1), some (.inl 9)]) (2127, [some (.inr (.inr 114)), some (.inl 1), some (.inl 9), none]) = true := by decide +kernel
theorem same_show_1_10 : xsame codez 3000 255 HZ 113 22 (78, [some (.inr (.inr 1)), some (.inl 1), some (.inl 10)]) (2127, [some (.inr (.inr 114)), some (.inl 1), some (.inl 10), none]) = true := by decide +kernel
theorem same_show_1_11 : xsame codez 3000 255 HZ 113 22 (78, [some (.inr (.inr 1)), some (.inl 1), some (.inl 11)]) (2127, [some (.inr (.inr 114)), some (.inl 1), some (.inl 11), none]) = true := by decide +kernel
theorem same_show_1_12 : xsame codez 3000 255 HZ 113 22 (78, [some (.inr (.inr 1)), some (.inl 1), some (.inl 12)]) (2127, [some (.inr (.inr 114)), some (.inl 1), some (.inl 12), none]) = true := by decide +kernel
theorem same_show_1_13 : xsame codez 3000 255 HZ 113 22 (78, [some (.inr (.inr 1)), some (.inl 1), some (.inl 13)]) (2127, [some (.inr (.inr 114)), some (.inl 1), some (.inl 13), none]) = true := by decide +kernel
theorem same_show_1_14 : xsame codez 3000 255 HZ 113 22 (78, [some (.inr (.inr 1)), some (.inl 1), some (.inl 14)]) (2127, [some (.inr (.inr 114)), some (.inl 1), some (.inl 14), none]) = true := by decide +kernel
theorem same_show_1_15 : xsame codez 3000 255 HZ 113 22 (78, [some (.inr (.inr 1)), some (.inl 1), some (.inl 15)]) (2127, [some (.inr (.inr 114)), some (.inl 1), some (.inl 15), none]) = true := by decide +kernel
theorem same_show_1_16 : xsame codez 3000 255 HZ 113 22 (78, [some (.inr (.inr 1)), some (.inl 1), some (.inl 16)]) (2127, [some (.inr (.inr 114)), some (.inl 1), some (.inl 16), none]) = true := by decide +kernel
theorem same_show_1_17 : xsame codez 3000 255 HZ 113 22 (78, [some (.inr (.inr 1)), some (.inl 1), some (.inl 17)]) (2127, [some (.inr (.inr 114)), some (.inl 1), some (.inl 17), none]) = true := by decide +kernel
theorem same_show_1_18 : xsame codez 3000 255 HZ 113 22 (78, [some (.inr (.inr 1)), some (.inl 1), some (.inl 18)]) (2127, [some (.inr (.inr 114)), some (.inl 1), some (.inl 18), none]) = true := by decide +kernel
theorem same_show_1_19 : xsame codez 3000 255 HZ 113 22 (78, [some (.inr (.inr 1)), some (.inl 1), some (.inl 19)]) (2127, [some (.inr (.inr 114)), some (.inl 1), some (.inl 19), none]) = true := by decide +kernel
theorem same_show_1_20 : xsame codez 3000 255 HZ 113 22 (78, [some (.inr (.inr 1)), some (.inl 1), some (.inl 20)]) (2127, [some (.inr (.inr 114)), some (.inl 1), some (.inl 20), none]) = true := by decide +kernel
theorem same_show_1_21 : xsame codez 3000 255 HZ 113 22 (78, [some (.inr (.inr 1)), some (.inl 1), some (.inl 21)]) (2127, [some (.inr (.inr 114)), some (.inl 1), some (.inl 21), none]) = true := by decide +kernel
theorem same_show_1_22 : xsame codez 3000 255 HZ 113 22 (78, [some (.inr (.inr 1)), some (.inl 1), some (.inl 22)]) (2127, [some (.inr (.inr 114)), some (.inl 1), some (.inl 22), none]) = true := by decide +kernel
theorem same_show_1_23 : xsame codez 3000 255 HZ 113 22 (78, [some (.inr (.inr 1)), some (.inl 1), some (.inl 23)]) (2127, [some (.inr (.inr 114)), some (.inl 1), some (.inl 23), none]) = true := by decide +kernel
theorem same_show_1_24 : xsame codez 3000 255 HZ 113 22 (78, [some (.inr (.inr 1)), some (.inl 1), some (.inl 24)]) (2127, [some (.inr (.inr 114)), some (.inl 1), some (.inl 24), none]) = true := by decide +kernel
theorem same_show_1_25 : xsame codez 3000 255 HZ 113 22 (78, [some (.inr (.inr 1)), some (.inl 1), some (.inl 25)]) (2127, [some (.inr (.inr 114)), some (.inl 1), some (.inl 25), none]) = true := by decide +kernel
theorem same_show_1_26 : xsame codez 3000 255 HZ 113 22 (78, [some (.inr (.inr 1)), some (.inl 1), some (.inl 26)]) (2127, [some (.inr (.inr 114)), some (.inl 1), some (.inl 26), none]) = true := by decide +kernel
theorem same_show_1_27 : xsame codez 3000 255 HZ 113 22 (78, [some (.inr (.inr 1)), some (.inl 1), some (.inl 27)]) (2127, [some (.inr (.inr 114)), some (.inl 1), some (.inl 27), none]) = true := by decide +kernel
theorem same_show_1 : ∀ a, a < 28 → xsame codez 3000 255 HZ 113 22 (78, [some (.inr (.inr 1)), some (.inl 1), some (.inl a)]) (2127, [some (.inr (.inr 114)), some (.inl 1), some (.inl a), none]) = true := fun a ha => match a, ha with
  | 0, _ => same_show_1_0
  | 1, _ => same_show_1_1
  | 2, _ => same_show_1_2
  | 3, _ => same_show_1_3
  | 4, _ => same_show_1_4
  | 5, _ => same_show_1_5
  | 6, _ => same_show_1_6
  | 7, _ => same_show_1_7
  | 8, _ => same_show_1_8
  | 9, _ => same_show_1_9
  | 10, _ => same_show_1_10
  | 11, _ => same_show_1_11
  | 12, _ => same_show_1_12
  | 13, _ => same_show_1_13
  | 14, _ => same_show_1_14
  | 15, _ => same_show_1_15
  | 16, _ => same_show_1_16
  | 17, _ => same_show_1_17
  | 18, _ => same_show_1_18
  | 19, _ => same_show_1_19
  | 20, _ => same_show_1_20
  | 21, _ => same_show_1_21
  | 22, _ => same_show_1_22
  | 23, _ => same_show_1_23
  | 24, _ => same_show_1_24
  | 25, _ => same_show_1_25
  | 26, _ => same_show_1_26
  | 27, _ => same_show_1_27
  | a + 28, h => absurd h (by omega)
theorem same_show_2_0 : xsame codez 3000 255 HZ 113 22 (78, [some (.inr (.inr 1)), some (.inl 2), some (.inl 0)]) (2127, [some (.inr (.inr 114)), some (.inl 2), some (.inl 0), none]) = true := by decide +kernel
theorem same_show_2_1 : xsame codez 3000 255 HZ 113 22 (78, [some (.inr (.inr 1)), some (.inl 2), some (.inl 1)]) (2127, [some (.inr (.inr 114)), some (.inl 2), some (.inl 1), none]) = true := by decide +kernel
theorem same_show_2_2 : xsame codez 3000 255 HZ 113 22 (78, [some (.inr (.inr 1)), some (.inl 2), some (.inl 2)]) (2127, [some (.inr (.inr 114)), some (.inl 2), some (.inl 2), none]) = true := by decide +kernel
theorem same_show_2_3 : xsame codez 3000 255 HZ 113 22 (78, [some (.inr (.inr 1)), some (.inl 2), some (.inl 3)]) (2127, [some (.inr (.inr 114)), some (.inl 2), some (.inl 3), none]) = true := by decide +kernel
theorem same_show_2_4 : xsame codez 3000 255 HZ 113 22 (78, [some (.inr (.inr 1)), some (.inl 2), some (.inl 4)]) (2127, [some (.inr (.inr 114)), some (.inl 2), some (.inl 4), none]) = true := by decide +kernel
theorem same_show_2_5 : xsame codez 3000 255 HZ 113 22 (78, [some (.inr (.inr 1)), some (.inl 2), some (.inl 5)]) (2127, [some (.inr (.inr 114)), some (.inl 2), some (.inl 5), none]) = true := by decide +kernel
theorem same_show_2_6 : xsame codez 3000 255 HZ 113 22 (78, [some (.inr (.inr 1)), some (.inl 2), some (.inl 6)]) (2127, [some (.inr (.inr 114)), some (.inl 2), some (.inl 6), none]) = true := by decide +kernel
theorem same_show_2_7 : xsame codez 3000 255 HZ 113 22 (78, [some (.inr (.inr 1)), some (.inl 2), some (.inl 7)]) (2127, [some (.inr (.inr 114)), some (.inl 2), some (.inl 7), none]) = true := by decide +kernel
theorem same_show_2_8 : xsame codez 3000 255 HZ 113 22 (78, [some (.inr (.inr 1)), some (.inl 2), some (.inl 8)]) (2127, [some (.inr (.inr 114)), some (.inl 2), some (.inl 8), none]) = true := by decide +kernel
theorem same_show_2_9 : xsame codez 3000 255 HZ 113 22 (78, [some (.inr (.inr 1)), some (.inl 2), some (.inl 9)]) (2127, [some (.inr (.inr 114)), some (.inl 2), some (.inl 9), none]) = true := by decide +kernel
theorem same_show_2_10 : xsame codez 3000 255 HZ 113 22 (78, [some (.inr (.inr 1)), some (.inl 2), some (.inl 10)]) (2127, [some (.inr (.inr 114)), some (.inl 2), some (.inl 10), none]) = true := by decide +kernel
theorem same_show_2_11 : xsame codez 3000 255 HZ 113 22 (78, [some (.inr (.inr 1)), some (.inl 2), some (.inl 11)]) (2127, [some (.inr (.inr 114)), some (.inl 2), some (.inl 11), none]) = true := by decide +kernel
theorem same_show_2_12 : xsame codez 3000 255 HZ 113 22 (78, [some (.inr (.inr 1)), some (.inl 2), some (.inl 12)]) (2127, [some (.inr (.inr 114)), some (.inl 2), some (.inl 12), none]) = true := by decide +kernel
theorem same_show_2_13 : xsame codez 3000 255 HZ 113 22 (78, [some (.inr (.inr 1)), some (.inl 2), some (.inl 13)]) (2127, [some (.inr (.inr 114)), some (.inl 2), some (.inl 13), none]) = true := by decide +kernel
theorem same_show_2_14 : xsame codez 3000 255 HZ 113 22 (78, [some (.inr (.inr 1)), some (.inl 2), some (.inl 14)]) (2127, [some (.inr (.inr 114)), some (.inl 2), some (.inl 14), none]) = true := by decide +kernel
theorem same_show_2_15 : xsame codez 3000 255 HZ 113 22 (78, [some (.inr (.inr 1)), some (.inl 2), some (.inl 15)]) (2127, [some (.inr (.inr 114)), some (.inl 2), some (.inl 15), none]) = true := by decide +kernel
theorem same_show_2_16 : xsame codez 3000 255 HZ 113 22 (78, [some (.inr (.inr 1)), some (.inl 2), some (.inl 16)]) (2127, [some (.inr (.inr 114)), some (.inl 2), some (.inl 16), none]) = true := by decide +kernel
theorem same_show_2_17 : xsame codez 3000 255 HZ 113 22 (78, [some (.inr (.inr 1)), some (.inl 2), some (.inl 17)]) (2127, [some (.inr (.inr 114)), some (.inl 2), some (.inl 17), none]) = true := by decide +kernel
theorem same_show_2_18 : xsame codez 3000 255 HZ 113 22 (78, [some (.inr (.inr 1)), some (.inl 2), some (.inl 18)]) (2127, [some (.inr (.inr 114)), some (.inl 2), some (.inl 18), none]) = true := by decide +kernel
theorem same_show_2_19 : xsame codez 3000 255 HZ 113 22 (78, [some (.inr (.inr 1)), some (.inl 2), some (.inl 19)]) (2127, [some (.inr (.inr 114)), some (.inl 2), some (.inl 19), none]) = true := by decide +kernel
theorem same_show_2_20 : xsame codez 3000 255 HZ 113 22 (78, [some (.inr (.inr 1)), some (.inl 2), some (.inl 20)]) (2127, [some (.inr (.inr 114)), some (.inl 2), some (.inl 20), none]) = true := by decide +kernel
theorem same_show_2_21 : xsame codez 3000 255 HZ 113 22 (78, [some (.inr (.inr 1)), some (.inl 2), some (.inl 21)]) (2127, [some (.inr (.inr 114)), some (.inl 2), some (.inl 21), none]) = true := by decide +kernel
theorem same_show_2_22 : xsame codez 3000 255 HZ 113 22 (78, [some (.inr (.inr 1)), some (.inl 2), some (.inl 22)]) (2127, [some (.inr (.inr 114)), some (.inl 2), some (.inl 22), none]) = true := by decide +kernel
theorem same_show_2_23 : xsame codez 3000 255 HZ 113 22 (78, [some (.inr (.inr 1)), some (.inl 2), some (.inl 23)]) (2127, [some (.inr (.inr 114)), some (.inl 2), some (.inl 23), none]) = true := by decide +kernel
theorem same_show_2_24 : xsame codez 3000 255 HZ 113 22 (78, [some (.inr (.inr 1)), some (.inl 2), some (.inl 24)]) (2127, [some (.inr (.inr 114)), some (.inl 2), some (.inl 24), none]) = true := by decide +kernel
theorem same_show_2_25 : xsame codez 3000 255 HZ 113 22 (78, [some (.inr (.inr 1)), some (.inl 2), some (.inl 25)]) (2127, [some (.inr (.inr 114)), some (.inl 2), some (.inl 25), none]) = true := by decide +kernel
theorem same_show_2_26 : xsame codez 3000 255 HZ 113 22 (78, [some (.inr (.inr 1)), some (.inl 2), some (.inl 26)]) (2127, [some (.inr (.inr 114)), some (.inl 2), some (.inl 26), none]) = true := by decide +kernel
theorem same_show_2_27 : xsame codez 3000 255 HZ 113 22 (78, [some (.inr (.inr 1)), some (.inl 2), some (.inl 27)]) (2127, [some (.inr (.inr 114)), some (.inl 2), some (.inl 27), none]) = true := by decide +kernel
theorem same_show_2 : ∀ a, a < 28 → xsame codez 3000 255 HZ 113 22 (78, [some (.inr (.inr 1)), some (.inl 2), some (.inl a)]) (2127, [some (.inr (.inr 114)), some (.inl 2), some (.inl a), none]) = true := fun a ha => match a, ha with
  | 0, _ => same_show_2_0
  | 1, _ => same_show_2_1
  | 2, _ => same_show_2_2
  | 3, _ => same_show_2_3
  | 4, _ => same_show_2_4
  | 5, _ => same_show_2_5
  | 6, _ => same_show_2_6
  | 7, _ => same_show_2_7
  | 8, _ => same_show_2_8
  | 9, _ => same_show_2_9
  | 10, _ => same_show_2_10
  | 11, _ => same_show_2_11
  | 12, _ => same_show_2_12
  | 13, _ => same_show_2_13
  | 14, _ => same_show_2_14
  | 15, _ => same_show_2_15
  | 16, _ => same_show_2_16
  | 17, _ => same_show_2_17
  | 18, _ => same_show_2_18
  | 19, _ => same_show_2_19
  | 20, _ => same_show_2_20
  | 21, _ => same_show_2_21
  | 22, _ => same_show_2_22
  | 23, _ => same_show_2_23
  | 24, _ => same_show_2_24
  | 25, _ => same_show_2_25
  | 26, _ => same_show_2_26
  | 27, _ => same_show_2_27
  | a + 28, h => absurd h (by omega)

/-! The short calls on the fresh pair: by a program (wip/p1/genrunz.py). -/
noncomputable def HZ : xBT xC 8 := hpz_1960
set_option maxRecDepth 100000 in
theorem same_fault : xsame codez 3000 252 HZ (41, [some (.inr (.inr 1))]) (1605, [some (.inr (.inr 111))]) = true := by decide +kernel
set_option maxRecDepth 100000 in
theorem same_end : xsame codez 3000 252 HZ (23, [some (.inr (.inr 1)), some (.inl 0)]) (1572, [some (.inr (.inr 111)), some (.inl 0)]) = true := by decide +kernel
set_option maxRecDepth 100000 in
theorem same_count : ∀ a, a < 14 → xsame codez 3000 252 HZ (15, [some (.inr (.inr 1)), some (.inl a)]) (1476, [some (.inr (.inr 111)), some (.inl a), none]) = true := by decide +kernel
set_option maxRecDepth 100000 in
theorem same_fact : ∀ a, a < 28 → ∀ b, b < 6 → xsame codez 3000 252 HZ (25, [some (.inr (.inr 1)), some (.inl a), some (.inl b), none]) (1583, [some (.inr (.inr 111)), some (.inl a), some (.inl b), none]) = true := by decide +kernel
set_option maxRecDepth 100000 in
theorem same_show : ∀ a, a < 28 → ∀ b, b < 3 → xsame codez 3000 252 HZ (67, [some (.inr (.inr 1)), some (.inl b), some (.inl a)]) (2095, [some (.inr (.inr 111)), some (.inl b), some (.inl a), none]) = true := by decide +kernel

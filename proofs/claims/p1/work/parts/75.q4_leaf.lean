/-! Short runs that the walks call: by a program (wip/p1/genwalk.py). -/
noncomputable def Sk13_0 : xS 9 := (hpz_5138, ((255, 0), (20, ((2247, ([some (.inr (.inr 114))], [])), []))))
noncomputable def FINk13 : xE 9 := (some (.inl 0), (hpz_5138, (255, 0)))
set_option maxRecDepth 100000 in
theorem pk13_0 : xisE FINk13 (xrun codez 1 Sk13_0) = true := by decide +kernel
theorem rk13_0 : xrun codez 1 Sk13_0 = some FINk13 := x_last pk13_0

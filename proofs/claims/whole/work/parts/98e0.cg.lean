/-! the class's constructor, stage by stage -/
set_option maxRecDepth 100000 in
theorem cg_0 : cc_stg 60000 39 121 15 0 1 cs_0 cs_1 = true := by decide +kernel

/-! the class's constructor, stage by stage -/
set_option maxRecDepth 100000 in
theorem cg_5 : cc_stg 60000 39 121 78 67 1 cs_5 cs_6 = true := by decide +kernel

/-! the class's constructor, stage by stage -/
set_option maxRecDepth 100000 in
theorem cg_1 : cc_stg 60000 39 121 26 15 1 cs_1 cs_2 = true := by decide +kernel
set_option maxRecDepth 100000 in
theorem cg_2 : cc_stg 60000 39 121 37 26 1 cs_2 cs_3 = true := by decide +kernel
set_option maxRecDepth 100000 in
theorem cg_3 : cc_stg 60000 39 121 56 37 1 cs_3 cs_4 = true := by decide +kernel
set_option maxRecDepth 100000 in
theorem cg_4 : cc_stg 60000 39 121 67 56 1 cs_4 cs_5 = true := by decide +kernel

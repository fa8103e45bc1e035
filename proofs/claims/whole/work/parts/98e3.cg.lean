/-! the class's constructor, stage by stage -/
set_option maxRecDepth 100000 in
theorem cg_6 : cc_stg 60000 39 121 89 78 1 cs_6 cs_7 = true := by decide +kernel
set_option maxRecDepth 100000 in
theorem cg_7 : cc_stg 60000 39 121 108 89 1 cs_7 cs_8 = true := by decide +kernel
set_option maxRecDepth 100000 in
theorem cg_8 : cc_stg 60000 39 121 131 108 1 cs_8 cs_9 = true := by decide +kernel
set_option maxRecDepth 100000 in
theorem cg_9 : cc_stg 60000 39 121 154 131 1 cs_9 cs_10 = true := by decide +kernel
set_option maxRecDepth 100000 in
theorem cg_10 : cc_stg 60000 39 121 181 154 1 cs_10 cs_11 = true := by decide +kernel
set_option maxRecDepth 100000 in
theorem cg_11 : cc_stg 60000 39 121 186 181 1 cs_11 cs_12 = true := by decide +kernel
set_option maxRecDepth 100000 in
theorem cg_12 : cc_stg 60000 39 121 197 186 1 cs_12 cs_13 = true := by decide +kernel

/-! the reference's constructor, stage by stage -/
set_option maxRecDepth 100000 in
theorem ch_3 : cc_stg 60000 39 167 523 375 284 cm_1 cm_2 = true := by decide +kernel

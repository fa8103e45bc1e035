/-! the reference's constructor, stage by stage -/
set_option maxRecDepth 100000 in
theorem ch_1 : cc_stg 60000 39 167 370 365 284 cm_1 cm_1 = true := by decide +kernel

/-! the reference's constructor, stage by stage -/
set_option maxRecDepth 100000 in
theorem ch_0 : cc_stg 60000 39 167 365 0 284 cm_0 cm_1 = true := by decide +kernel

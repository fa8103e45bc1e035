/-! the reference's constructor, stage by stage -/
set_option maxRecDepth 100000 in
theorem ch_5 : cc_stg 60000 39 167 823 671 284 cm_3 cm_4 = true := by decide +kernel

/-! the reference's constructor, stage by stage -/
set_option maxRecDepth 100000 in
theorem ch_4 : cc_stg 60000 39 167 671 523 284 cm_2 cm_3 = true := by decide +kernel

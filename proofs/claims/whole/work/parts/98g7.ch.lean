/-! the reference's constructor, stage by stage -/
set_option maxRecDepth 100000 in
theorem ch_7 : cc_stg 60000 39 167 831 827 284 cm_4 cm_4 = true := by decide +kernel

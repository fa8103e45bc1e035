theorem em_fcs : em_all em_fck = true := by decide +kernel
theorem em_ccs : em_all em_clk = true := by decide +kernel
theorem em_kcs : em_all em_csk = true := by decide +kernel
theorem em_scs : em_all em_sck = true := by decide +kernel
theorem em_mc_0 : (List.range 1100).all (em_mck 0) = true := by decide +kernel
theorem em_mc_1 : (List.range 1100).all (em_mck 1) = true := by decide +kernel
theorem em_mc_2 : (List.range 1100).all (em_mck 2) = true := by decide +kernel
theorem em_mc_3 : (List.range 1100).all (em_mck 3) = true := by decide +kernel
theorem em_mc_4 : (List.range 1100).all (em_mck 4) = true := by decide +kernel
theorem em_mc_5 : (List.range 1100).all (em_mck 5) = true := by decide +kernel
theorem em_mc_6 : (List.range 1100).all (em_mck 6) = true := by decide +kernel
theorem em_mc_7 : (List.range 1100).all (em_mck 7) = true := by decide +kernel
theorem em_mc_8 : (List.range 1100).all (em_mck 8) = true := by decide +kernel
theorem em_mc_9 : (List.range 1100).all (em_mck 9) = true := by decide +kernel
theorem em_mc_10 : (List.range 1100).all (em_mck 10) = true := by decide +kernel
theorem em_mc_11 : (List.range 1100).all (em_mck 11) = true := by decide +kernel
theorem em_mc_12 : (List.range 1100).all (em_mck 12) = true := by decide +kernel
theorem em_mc_13 : (List.range 1100).all (em_mck 13) = true := by decide +kernel
theorem em_mc_14 : (List.range 1100).all (em_mck 14) = true := by decide +kernel
theorem em_mc_15 : (List.range 1100).all (em_mck 15) = true := by decide +kernel
theorem em_mc_16 : (List.range 1100).all (em_mck 16) = true := by decide +kernel
theorem em_mc_17 : (List.range 1100).all (em_mck 17) = true := by decide +kernel
theorem em_mc_18 : (List.range 1100).all (em_mck 18) = true := by decide +kernel
theorem em_mcs : em_all em_mck = true := by
  refine List.all_eq_true.mpr fun o ho => ?_
  have h1 : o < 20 := List.mem_range.mp ho
  match o, h1 with
  | 0, _ => exact em_mc_0
  | 1, _ => exact em_mc_1
  | 2, _ => exact em_mc_2
  | 3, _ => exact em_mc_3
  | 4, _ => exact em_mc_4
  | 5, _ => exact em_mc_5
  | 6, _ => exact em_mc_6
  | 7, _ => exact em_mc_7
  | 8, _ => exact em_mc_8
  | 9, _ => exact em_mc_9
  | 10, _ => exact em_mc_10
  | 11, _ => exact em_mc_11
  | 12, _ => exact em_mc_12
  | 13, _ => exact em_mc_13
  | 14, _ => exact em_mc_14
  | 15, _ => exact em_mc_15
  | 16, _ => exact em_mc_16
  | 17, _ => exact em_mc_17
  | 18, _ => exact em_mc_18
  | 19, _ => decide +kernel
  | o + 20, h => omega

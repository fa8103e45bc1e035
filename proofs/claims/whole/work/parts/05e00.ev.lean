theorem em_ch_0 : (List.range' 0 15).all em_chm = true := by decide +kernel
theorem em_cr_15_0 : em_chr 15 0 60 = true := by decide +kernel
theorem em_cr_15_60 : em_chr 15 60 60 = true := by decide +kernel
theorem em_cr_15_120 : em_chr 15 120 60 = true := by decide +kernel
theorem em_cr_15_180 : em_chr 15 180 60 = true := by decide +kernel
theorem em_cr_15_240 : em_chr 15 240 28 = true := by decide +kernel
theorem em_cb_15 : em_chm 15 = true := by
  refine List.all_eq_true.mpr fun pc h => ?_
  have h1 : pc < 268 := List.mem_range.mp h
  have go : ∀ a k, em_chr 15 a k = true → a ≤ pc → pc < a + k → em_chk 15 pc = true := fun a k h1 h2 h3 => List.all_eq_true.mp h1 pc (by rw [List.mem_range'_1]; exact ⟨h2, h3⟩)
  rcases Nat.lt_or_ge pc 60 with g0 | g0
  · exact go 0 60 em_cr_15_0 (by omega) (by omega)
  rcases Nat.lt_or_ge pc 120 with g1 | g1
  · exact go 60 60 em_cr_15_60 (by omega) (by omega)
  rcases Nat.lt_or_ge pc 180 with g2 | g2
  · exact go 120 60 em_cr_15_120 (by omega) (by omega)
  rcases Nat.lt_or_ge pc 240 with g3 | g3
  · exact go 180 60 em_cr_15_180 (by omega) (by omega)
  exact go 240 28 em_cr_15_240 (by omega) (by omega)
theorem em_ch_1 : (List.range' 16 15).all em_chm = true := by decide +kernel
theorem em_ch_2 : (List.range' 31 17).all em_chm = true := by decide +kernel
theorem em_ch_3 : (List.range' 48 12).all em_chm = true := by decide +kernel
theorem em_ch_4 : (List.range' 60 8).all em_chm = true := by decide +kernel
theorem em_ch_5 : (List.range' 68 9).all em_chm = true := by decide +kernel
theorem em_ch_6 : (List.range' 77 11).all em_chm = true := by decide +kernel
theorem em_ch_7 : (List.range' 88 11).all em_chm = true := by decide +kernel
theorem em_ch_8 : (List.range' 99 14).all em_chm = true := by decide +kernel
theorem em_ch_9 : (List.range' 113 8).all em_chm = true := by decide +kernel
theorem em_ch_10 : (List.range' 121 8).all em_chm = true := by decide +kernel
theorem em_ch_11 : (List.range' 129 13).all em_chm = true := by decide +kernel
theorem em_ch_12 : (List.range' 142 12).all em_chm = true := by decide +kernel
theorem em_ch_13 : (List.range' 154 7).all em_chm = true := by decide +kernel
theorem em_cr_161_0 : em_chr 161 0 60 = true := by decide +kernel
theorem em_cr_161_60 : em_chr 161 60 60 = true := by decide +kernel
theorem em_cr_161_120 : em_chr 161 120 60 = true := by decide +kernel
theorem em_cr_161_180 : em_chr 161 180 60 = true := by decide +kernel

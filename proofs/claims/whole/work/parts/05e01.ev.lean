theorem em_cr_161_240 : em_chr 161 240 54 = true := by decide +kernel
theorem em_cb_161 : em_chm 161 = true := by
  refine List.all_eq_true.mpr fun pc h => ?_
  have h1 : pc < 294 := List.mem_range.mp h
  have go : ∀ a k, em_chr 161 a k = true → a ≤ pc → pc < a + k → em_chk 161 pc = true := fun a k h1 h2 h3 => List.all_eq_true.mp h1 pc (by rw [List.mem_range'_1]; exact ⟨h2, h3⟩)
  rcases Nat.lt_or_ge pc 60 with g0 | g0
  · exact go 0 60 em_cr_161_0 (by omega) (by omega)
  rcases Nat.lt_or_ge pc 120 with g1 | g1
  · exact go 60 60 em_cr_161_60 (by omega) (by omega)
  rcases Nat.lt_or_ge pc 180 with g2 | g2
  · exact go 120 60 em_cr_161_120 (by omega) (by omega)
  rcases Nat.lt_or_ge pc 240 with g3 | g3
  · exact go 180 60 em_cr_161_180 (by omega) (by omega)
  exact go 240 54 em_cr_161_240 (by omega) (by omega)
theorem em_ch_14 : (List.range' 162 5).all em_chm = true := by decide +kernel
theorem em_cr_167_0 : em_chr 167 0 40 = true := by decide +kernel
theorem em_cr_167_40 : em_chr 167 40 40 = true := by decide +kernel
theorem em_cr_167_80 : em_chr 167 80 40 = true := by decide +kernel
theorem em_cr_167_120 : em_chr 167 120 40 = true := by decide +kernel
theorem em_cr_167_160 : em_chr 167 160 40 = true := by decide +kernel
theorem em_cr_167_200 : em_chr 167 200 40 = true := by decide +kernel
theorem em_cr_167_240 : em_chr 167 240 40 = true := by decide +kernel
theorem em_cr_167_280 : em_chr 167 280 40 = true := by decide +kernel
theorem em_cr_167_320 : em_chr 167 320 40 = true := by decide +kernel
theorem em_cr_167_360 : em_chr 167 360 40 = true := by decide +kernel
theorem em_cr_167_400 : em_chr 167 400 40 = true := by decide +kernel
theorem em_cr_167_440 : em_chr 167 440 40 = true := by decide +kernel
theorem em_cr_167_480 : em_chr 167 480 40 = true := by decide +kernel
theorem em_cr_167_520 : em_chr 167 520 40 = true := by decide +kernel
theorem em_cr_167_560 : em_chr 167 560 40 = true := by decide +kernel
theorem em_cr_167_600 : em_chr 167 600 40 = true := by decide +kernel
theorem em_cr_167_640 : em_chr 167 640 40 = true := by decide +kernel
theorem em_cr_167_680 : em_chr 167 680 40 = true := by decide +kernel
theorem em_cr_167_720 : em_chr 167 720 40 = true := by decide +kernel
theorem em_cr_167_760 : em_chr 167 760 40 = true := by decide +kernel
theorem em_cr_167_800 : em_chr 167 800 32 = true := by decide +kernel

theorem em_cb_167 : em_chm 167 = true := by
  refine List.all_eq_true.mpr fun pc h => ?_
  have h1 : pc < 832 := List.mem_range.mp h
  have go : ∀ a k, em_chr 167 a k = true → a ≤ pc → pc < a + k → em_chk 167 pc = true := fun a k h1 h2 h3 => List.all_eq_true.mp h1 pc (by rw [List.mem_range'_1]; exact ⟨h2, h3⟩)
  rcases Nat.lt_or_ge pc 40 with g0 | g0
  · exact go 0 40 em_cr_167_0 (by omega) (by omega)
  rcases Nat.lt_or_ge pc 80 with g1 | g1
  · exact go 40 40 em_cr_167_40 (by omega) (by omega)
  rcases Nat.lt_or_ge pc 120 with g2 | g2
  · exact go 80 40 em_cr_167_80 (by omega) (by omega)
  rcases Nat.lt_or_ge pc 160 with g3 | g3
  · exact go 120 40 em_cr_167_120 (by omega) (by omega)
  rcases Nat.lt_or_ge pc 200 with g4 | g4
  · exact go 160 40 em_cr_167_160 (by omega) (by omega)
  rcases Nat.lt_or_ge pc 240 with g5 | g5
  · exact go 200 40 em_cr_167_200 (by omega) (by omega)
  rcases Nat.lt_or_ge pc 280 with g6 | g6
  · exact go 240 40 em_cr_167_240 (by omega) (by omega)
  rcases Nat.lt_or_ge pc 320 with g7 | g7
  · exact go 280 40 em_cr_167_280 (by omega) (by omega)
  rcases Nat.lt_or_ge pc 360 with g8 | g8
  · exact go 320 40 em_cr_167_320 (by omega) (by omega)
  rcases Nat.lt_or_ge pc 400 with g9 | g9
  · exact go 360 40 em_cr_167_360 (by omega) (by omega)
  rcases Nat.lt_or_ge pc 440 with g10 | g10
  · exact go 400 40 em_cr_167_400 (by omega) (by omega)
  rcases Nat.lt_or_ge pc 480 with g11 | g11
  · exact go 440 40 em_cr_167_440 (by omega) (by omega)
  rcases Nat.lt_or_ge pc 520 with g12 | g12
  · exact go 480 40 em_cr_167_480 (by omega) (by omega)
  rcases Nat.lt_or_ge pc 560 with g13 | g13
  · exact go 520 40 em_cr_167_520 (by omega) (by omega)
  rcases Nat.lt_or_ge pc 600 with g14 | g14
  · exact go 560 40 em_cr_167_560 (by omega) (by omega)
  rcases Nat.lt_or_ge pc 640 with g15 | g15
  · exact go 600 40 em_cr_167_600 (by omega) (by omega)
  rcases Nat.lt_or_ge pc 680 with g16 | g16
  · exact go 640 40 em_cr_167_640 (by omega) (by omega)
  rcases Nat.lt_or_ge pc 720 with g17 | g17
  · exact go 680 40 em_cr_167_680 (by omega) (by omega)
  rcases Nat.lt_or_ge pc 760 with g18 | g18
  · exact go 720 40 em_cr_167_720 (by omega) (by omega)
  rcases Nat.lt_or_ge pc 800 with g19 | g19
  · exact go 760 40 em_cr_167_760 (by omega) (by omega)
  exact go 800 32 em_cr_167_800 (by omega) (by omega)
theorem em_ch_15 : (List.range' 168 9).all em_chm = true := by decide +kernel
theorem em_cr_177_0 : em_chr 177 0 60 = true := by decide +kernel
theorem em_cr_177_60 : em_chr 177 60 60 = true := by decide +kernel
theorem em_cr_177_120 : em_chr 177 120 60 = true := by decide +kernel
theorem em_cr_177_180 : em_chr 177 180 60 = true := by decide +kernel
theorem em_cr_177_240 : em_chr 177 240 55 = true := by decide +kernel
theorem em_cb_177 : em_chm 177 = true := by
  refine List.all_eq_true.mpr fun pc h => ?_
  have h1 : pc < 295 := List.mem_range.mp h
  have go : ∀ a k, em_chr 177 a k = true → a ≤ pc → pc < a + k → em_chk 177 pc = true := fun a k h1 h2 h3 => List.all_eq_true.mp h1 pc (by rw [List.mem_range'_1]; exact ⟨h2, h3⟩)
  rcases Nat.lt_or_ge pc 60 with g0 | g0
  · exact go 0 60 em_cr_177_0 (by omega) (by omega)
  rcases Nat.lt_or_ge pc 120 with g1 | g1
  · exact go 60 60 em_cr_177_60 (by omega) (by omega)
  rcases Nat.lt_or_ge pc 180 with g2 | g2
  · exact go 120 60 em_cr_177_120 (by omega) (by omega)
  rcases Nat.lt_or_ge pc 240 with g3 | g3
  · exact go 180 60 em_cr_177_180 (by omega) (by omega)
  exact go 240 55 em_cr_177_240 (by omega) (by omega)
theorem em_ch_16 : (List.range' 178 7).all em_chm = true := by decide +kernel
theorem em_cr_185_0 : em_chr 185 0 60 = true := by decide +kernel
theorem em_cr_185_60 : em_chr 185 60 60 = true := by decide +kernel
theorem em_cr_185_120 : em_chr 185 120 60 = true := by decide +kernel
theorem em_cr_185_180 : em_chr 185 180 60 = true := by decide +kernel
theorem em_cr_185_240 : em_chr 185 240 23 = true := by decide +kernel
theorem em_cb_185 : em_chm 185 = true := by
  refine List.all_eq_true.mpr fun pc h => ?_
  have h1 : pc < 263 := List.mem_range.mp h
  have go : ∀ a k, em_chr 185 a k = true → a ≤ pc → pc < a + k → em_chk 185 pc = true := fun a k h1 h2 h3 => List.all_eq_true.mp h1 pc (by rw [List.mem_range'_1]; exact ⟨h2, h3⟩)
  rcases Nat.lt_or_ge pc 60 with g0 | g0
  · exact go 0 60 em_cr_185_0 (by omega) (by omega)
  rcases Nat.lt_or_ge pc 120 with g1 | g1
  · exact go 60 60 em_cr_185_60 (by omega) (by omega)
  rcases Nat.lt_or_ge pc 180 with g2 | g2
  · exact go 120 60 em_cr_185_120 (by omega) (by omega)
  rcases Nat.lt_or_ge pc 240 with g3 | g3
  · exact go 180 60 em_cr_185_180 (by omega) (by omega)
  exact go 240 23 em_cr_185_240 (by omega) (by omega)
theorem em_ch_17 : (List.range' 186 4).all em_chm = true := by decide +kernel
theorem em_cr_190_0 : em_chr 190 0 60 = true := by decide +kernel
theorem em_cr_190_60 : em_chr 190 60 60 = true := by decide +kernel
theorem em_cr_190_120 : em_chr 190 120 60 = true := by decide +kernel
theorem em_cr_190_180 : em_chr 190 180 60 = true := by decide +kernel
theorem em_cr_190_240 : em_chr 190 240 57 = true := by decide +kernel
theorem em_cb_190 : em_chm 190 = true := by
  refine List.all_eq_true.mpr fun pc h => ?_
  have h1 : pc < 297 := List.mem_range.mp h
  have go : ∀ a k, em_chr 190 a k = true → a ≤ pc → pc < a + k → em_chk 190 pc = true := fun a k h1 h2 h3 => List.all_eq_true.mp h1 pc (by rw [List.mem_range'_1]; exact ⟨h2, h3⟩)
  rcases Nat.lt_or_ge pc 60 with g0 | g0
  · exact go 0 60 em_cr_190_0 (by omega) (by omega)
  rcases Nat.lt_or_ge pc 120 with g1 | g1
  · exact go 60 60 em_cr_190_60 (by omega) (by omega)
  rcases Nat.lt_or_ge pc 180 with g2 | g2
  · exact go 120 60 em_cr_190_120 (by omega) (by omega)
  rcases Nat.lt_or_ge pc 240 with g3 | g3
  · exact go 180 60 em_cr_190_180 (by omega) (by omega)
  exact go 240 57 em_cr_190_240 (by omega) (by omega)
theorem em_ch_18 : (List.range' 191 6).all em_chm = true := by decide +kernel
theorem em_cr_197_0 : em_chr 197 0 60 = true := by decide +kernel

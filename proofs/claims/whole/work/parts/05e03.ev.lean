theorem em_cr_197_60 : em_chr 197 60 60 = true := by decide +kernel
theorem em_cr_197_120 : em_chr 197 120 60 = true := by decide +kernel
theorem em_cr_197_180 : em_chr 197 180 60 = true := by decide +kernel
theorem em_cr_197_240 : em_chr 197 240 33 = true := by decide +kernel
theorem em_cb_197 : em_chm 197 = true := by
  refine List.all_eq_true.mpr fun pc h => ?_
  have h1 : pc < 273 := List.mem_range.mp h
  have go : ∀ a k, em_chr 197 a k = true → a ≤ pc → pc < a + k → em_chk 197 pc = true := fun a k h1 h2 h3 => List.all_eq_true.mp h1 pc (by rw [List.mem_range'_1]; exact ⟨h2, h3⟩)
  rcases Nat.lt_or_ge pc 60 with g0 | g0
  · exact go 0 60 em_cr_197_0 (by omega) (by omega)
  rcases Nat.lt_or_ge pc 120 with g1 | g1
  · exact go 60 60 em_cr_197_60 (by omega) (by omega)
  rcases Nat.lt_or_ge pc 180 with g2 | g2
  · exact go 120 60 em_cr_197_120 (by omega) (by omega)
  rcases Nat.lt_or_ge pc 240 with g3 | g3
  · exact go 180 60 em_cr_197_180 (by omega) (by omega)
  exact go 240 33 em_cr_197_240 (by omega) (by omega)
theorem em_ch_19 : (List.range' 198 16).all em_chm = true := by decide +kernel
theorem em_ch_20 : (List.range' 214 12).all em_chm = true := by decide +kernel
theorem em_ch_21 : (List.range' 226 13).all em_chm = true := by decide +kernel
theorem em_ch_22 : (List.range' 239 9).all em_chm = true := by decide +kernel
theorem em_ch_23 : (List.range' 248 10).all em_chm = true := by decide +kernel
theorem em_ch_24 : (List.range' 258 10).all em_chm = true := by decide +kernel
theorem em_ch_25 : (List.range' 268 5).all em_chm = true := by decide +kernel
theorem em_cr_273_0 : em_chr 273 0 60 = true := by decide +kernel
theorem em_cr_273_60 : em_chr 273 60 60 = true := by decide +kernel
theorem em_cr_273_120 : em_chr 273 120 60 = true := by decide +kernel
theorem em_cr_273_180 : em_chr 273 180 43 = true := by decide +kernel
theorem em_cb_273 : em_chm 273 = true := by
  refine List.all_eq_true.mpr fun pc h => ?_
  have h1 : pc < 223 := List.mem_range.mp h
  have go : ∀ a k, em_chr 273 a k = true → a ≤ pc → pc < a + k → em_chk 273 pc = true := fun a k h1 h2 h3 => List.all_eq_true.mp h1 pc (by rw [List.mem_range'_1]; exact ⟨h2, h3⟩)
  rcases Nat.lt_or_ge pc 60 with g0 | g0
  · exact go 0 60 em_cr_273_0 (by omega) (by omega)
  rcases Nat.lt_or_ge pc 120 with g1 | g1
  · exact go 60 60 em_cr_273_60 (by omega) (by omega)
  rcases Nat.lt_or_ge pc 180 with g2 | g2
  · exact go 120 60 em_cr_273_120 (by omega) (by omega)
  exact go 180 43 em_cr_273_180 (by omega) (by omega)
theorem em_ch_26 : (List.range' 274 3).all em_chm = true := by decide +kernel
theorem em_cr_277_0 : em_chr 277 0 60 = true := by decide +kernel
theorem em_cr_277_60 : em_chr 277 60 60 = true := by decide +kernel
theorem em_cr_277_120 : em_chr 277 120 60 = true := by decide +kernel
theorem em_cr_277_180 : em_chr 277 180 60 = true := by decide +kernel
theorem em_cr_277_240 : em_chr 277 240 55 = true := by decide +kernel
theorem em_cb_277 : em_chm 277 = true := by
  refine List.all_eq_true.mpr fun pc h => ?_
  have h1 : pc < 295 := List.mem_range.mp h
  have go : ∀ a k, em_chr 277 a k = true → a ≤ pc → pc < a + k → em_chk 277 pc = true := fun a k h1 h2 h3 => List.all_eq_true.mp h1 pc (by rw [List.mem_range'_1]; exact ⟨h2, h3⟩)
  rcases Nat.lt_or_ge pc 60 with g0 | g0
  · exact go 0 60 em_cr_277_0 (by omega) (by omega)
  rcases Nat.lt_or_ge pc 120 with g1 | g1
  · exact go 60 60 em_cr_277_60 (by omega) (by omega)
  rcases Nat.lt_or_ge pc 180 with g2 | g2
  · exact go 120 60 em_cr_277_120 (by omega) (by omega)
  rcases Nat.lt_or_ge pc 240 with g3 | g3
  · exact go 180 60 em_cr_277_180 (by omega) (by omega)
  exact go 240 55 em_cr_277_240 (by omega) (by omega)

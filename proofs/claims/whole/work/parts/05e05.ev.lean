theorem em_cr_278_960 : em_chr 278 960 40 = true := by decide +kernel
theorem em_cr_278_1000 : em_chr 278 1000 40 = true := by decide +kernel
theorem em_cr_278_1040 : em_chr 278 1040 40 = true := by decide +kernel
theorem em_cr_278_1080 : em_chr 278 1080 40 = true := by decide +kernel
theorem em_cr_278_1120 : em_chr 278 1120 40 = true := by decide +kernel
theorem em_cr_278_1160 : em_chr 278 1160 40 = true := by decide +kernel
theorem em_cr_278_1200 : em_chr 278 1200 40 = true := by decide +kernel
theorem em_cr_278_1240 : em_chr 278 1240 40 = true := by decide +kernel
theorem em_cr_278_1280 : em_chr 278 1280 40 = true := by decide +kernel
theorem em_cr_278_1320 : em_chr 278 1320 2 = true := by decide +kernel
theorem em_cb_278 : em_chm 278 = true := by
  refine List.all_eq_true.mpr fun pc h => ?_
  have h1 : pc < 1322 := List.mem_range.mp h
  have go : ∀ a k, em_chr 278 a k = true → a ≤ pc → pc < a + k → em_chk 278 pc = true := fun a k h1 h2 h3 => List.all_eq_true.mp h1 pc (by rw [List.mem_range'_1]; exact ⟨h2, h3⟩)
  rcases Nat.lt_or_ge pc 40 with g0 | g0
  · exact go 0 40 em_cr_278_0 (by omega) (by omega)
  rcases Nat.lt_or_ge pc 80 with g1 | g1
  · exact go 40 40 em_cr_278_40 (by omega) (by omega)
  rcases Nat.lt_or_ge pc 120 with g2 | g2
  · exact go 80 40 em_cr_278_80 (by omega) (by omega)
  rcases Nat.lt_or_ge pc 160 with g3 | g3
  · exact go 120 40 em_cr_278_120 (by omega) (by omega)
  rcases Nat.lt_or_ge pc 200 with g4 | g4
  · exact go 160 40 em_cr_278_160 (by omega) (by omega)
  rcases Nat.lt_or_ge pc 240 with g5 | g5
  · exact go 200 40 em_cr_278_200 (by omega) (by omega)
  rcases Nat.lt_or_ge pc 280 with g6 | g6
  · exact go 240 40 em_cr_278_240 (by omega) (by omega)
  rcases Nat.lt_or_ge pc 320 with g7 | g7
  · exact go 280 40 em_cr_278_280 (by omega) (by omega)
  rcases Nat.lt_or_ge pc 360 with g8 | g8
  · exact go 320 40 em_cr_278_320 (by omega) (by omega)
  rcases Nat.lt_or_ge pc 400 with g9 | g9
  · exact go 360 40 em_cr_278_360 (by omega) (by omega)
  rcases Nat.lt_or_ge pc 440 with g10 | g10
  · exact go 400 40 em_cr_278_400 (by omega) (by omega)
  rcases Nat.lt_or_ge pc 480 with g11 | g11
  · exact go 440 40 em_cr_278_440 (by omega) (by omega)
  rcases Nat.lt_or_ge pc 520 with g12 | g12
  · exact go 480 40 em_cr_278_480 (by omega) (by omega)
  rcases Nat.lt_or_ge pc 560 with g13 | g13
  · exact go 520 40 em_cr_278_520 (by omega) (by omega)
  rcases Nat.lt_or_ge pc 600 with g14 | g14
  · exact go 560 40 em_cr_278_560 (by omega) (by omega)
  rcases Nat.lt_or_ge pc 640 with g15 | g15
  · exact go 600 40 em_cr_278_600 (by omega) (by omega)
  rcases Nat.lt_or_ge pc 680 with g16 | g16
  · exact go 640 40 em_cr_278_640 (by omega) (by omega)
  rcases Nat.lt_or_ge pc 720 with g17 | g17
  · exact go 680 40 em_cr_278_680 (by omega) (by omega)
  rcases Nat.lt_or_ge pc 760 with g18 | g18
  · exact go 720 40 em_cr_278_720 (by omega) (by omega)
  rcases Nat.lt_or_ge pc 800 with g19 | g19
  · exact go 760 40 em_cr_278_760 (by omega) (by omega)
  rcases Nat.lt_or_ge pc 840 with g20 | g20
  · exact go 800 40 em_cr_278_800 (by omega) (by omega)
  rcases Nat.lt_or_ge pc 880 with g21 | g21
  · exact go 840 40 em_cr_278_840 (by omega) (by omega)
  rcases Nat.lt_or_ge pc 920 with g22 | g22
  · exact go 880 40 em_cr_278_880 (by omega) (by omega)
  rcases Nat.lt_or_ge pc 960 with g23 | g23
  · exact go 920 40 em_cr_278_920 (by omega) (by omega)
  rcases Nat.lt_or_ge pc 1000 with g24 | g24
  · exact go 960 40 em_cr_278_960 (by omega) (by omega)
  rcases Nat.lt_or_ge pc 1040 with g25 | g25
  · exact go 1000 40 em_cr_278_1000 (by omega) (by omega)
  rcases Nat.lt_or_ge pc 1080 with g26 | g26
  · exact go 1040 40 em_cr_278_1040 (by omega) (by omega)
  rcases Nat.lt_or_ge pc 1120 with g27 | g27
  · exact go 1080 40 em_cr_278_1080 (by omega) (by omega)
  rcases Nat.lt_or_ge pc 1160 with g28 | g28
  · exact go 1120 40 em_cr_278_1120 (by omega) (by omega)
  rcases Nat.lt_or_ge pc 1200 with g29 | g29
  · exact go 1160 40 em_cr_278_1160 (by omega) (by omega)
  rcases Nat.lt_or_ge pc 1240 with g30 | g30
  · exact go 1200 40 em_cr_278_1200 (by omega) (by omega)
  rcases Nat.lt_or_ge pc 1280 with g31 | g31
  · exact go 1240 40 em_cr_278_1240 (by omega) (by omega)
  rcases Nat.lt_or_ge pc 1320 with g32 | g32
  · exact go 1280 40 em_cr_278_1280 (by omega) (by omega)
  exact go 1320 2 em_cr_278_1320 (by omega) (by omega)
theorem em_ch_27 : (List.range' 279 14).all em_chm = true := by decide +kernel

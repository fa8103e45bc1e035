theorem em_yc_17 : (List.range' 167 1).all em_yok = true := by decide +kernel
theorem em_yc_18 : (List.range' 168 10).all em_yok = true := by decide +kernel
theorem em_yc_19 : (List.range' 178 7).all em_yok = true := by decide +kernel
theorem em_yc_20 : (List.range' 185 5).all em_yok = true := by decide +kernel
theorem em_yc_21 : (List.range' 190 3).all em_yok = true := by decide +kernel
theorem em_yc_22 : (List.range' 193 4).all em_yok = true := by decide +kernel
theorem em_yc_23 : (List.range' 197 5).all em_yok = true := by decide +kernel
theorem em_yc_24 : (List.range' 202 13).all em_yok = true := by decide +kernel
theorem em_yc_25 : (List.range' 215 11).all em_yok = true := by decide +kernel
theorem em_yc_26 : (List.range' 226 11).all em_yok = true := by decide +kernel
theorem em_yc_27 : (List.range' 237 9).all em_yok = true := by decide +kernel
theorem em_yc_28 : (List.range' 246 8).all em_yok = true := by decide +kernel
theorem em_yc_29 : (List.range' 254 9).all em_yok = true := by decide +kernel
theorem em_yc_30 : (List.range' 263 8).all em_yok = true := by decide +kernel
theorem em_yc_31 : (List.range' 271 6).all em_yok = true := by decide +kernel
theorem em_yc_32 : (List.range' 277 1).all em_yok = true := by decide +kernel
theorem em_yc_33 : (List.range' 278 1).all em_yok = true := by decide +kernel
theorem em_yc_34 : (List.range' 279 2).all em_yok = true := by decide +kernel
theorem em_yall {y : Nat} (h : y < em_n) : em_yok y = true := by
  have hn : em_n = 281 := rfl
  rw [hn] at h
  have go : ∀ (a k : Nat), (List.range' a k).all em_yok = true → a ≤ y → y < a + k → em_yok y = true := fun a k h1 h2 h3 => List.all_eq_true.mp h1 y (by rw [List.mem_range'_1]; exact ⟨h2, h3⟩)
  rcases Nat.lt_or_ge y 14 with h0 | h0
  · exact go 0 14 em_yc_0 (by omega) (by omega)
  rcases Nat.lt_or_ge y 24 with h1 | h1
  · exact go 14 10 em_yc_1 (by omega) (by omega)
  rcases Nat.lt_or_ge y 34 with h2 | h2
  · exact go 24 10 em_yc_2 (by omega) (by omega)
  rcases Nat.lt_or_ge y 49 with h3 | h3
  · exact go 34 15 em_yc_3 (by omega) (by omega)
  rcases Nat.lt_or_ge y 60 with h4 | h4
  · exact go 49 11 em_yc_4 (by omega) (by omega)
  rcases Nat.lt_or_ge y 67 with h5 | h5
  · exact go 60 7 em_yc_5 (by omega) (by omega)
  rcases Nat.lt_or_ge y 74 with h6 | h6
  · exact go 67 7 em_yc_6 (by omega) (by omega)
  rcases Nat.lt_or_ge y 81 with h7 | h7
  · exact go 74 7 em_yc_7 (by omega) (by omega)
  rcases Nat.lt_or_ge y 94 with h8 | h8
  · exact go 81 13 em_yc_8 (by omega) (by omega)
  rcases Nat.lt_or_ge y 105 with h9 | h9
  · exact go 94 11 em_yc_9 (by omega) (by omega)
  rcases Nat.lt_or_ge y 114 with h10 | h10
  · exact go 105 9 em_yc_10 (by omega) (by omega)
  rcases Nat.lt_or_ge y 121 with h11 | h11
  · exact go 114 7 em_yc_11 (by omega) (by omega)
  rcases Nat.lt_or_ge y 127 with h12 | h12
  · exact go 121 6 em_yc_12 (by omega) (by omega)
  rcases Nat.lt_or_ge y 139 with h13 | h13
  · exact go 127 12 em_yc_13 (by omega) (by omega)
  rcases Nat.lt_or_ge y 150 with h14 | h14
  · exact go 139 11 em_yc_14 (by omega) (by omega)
  rcases Nat.lt_or_ge y 158 with h15 | h15
  · exact go 150 8 em_yc_15 (by omega) (by omega)
  rcases Nat.lt_or_ge y 167 with h16 | h16
  · exact go 158 9 em_yc_16 (by omega) (by omega)
  rcases Nat.lt_or_ge y 168 with h17 | h17
  · exact go 167 1 em_yc_17 (by omega) (by omega)
  rcases Nat.lt_or_ge y 178 with h18 | h18
  · exact go 168 10 em_yc_18 (by omega) (by omega)
  rcases Nat.lt_or_ge y 185 with h19 | h19
  · exact go 178 7 em_yc_19 (by omega) (by omega)
  rcases Nat.lt_or_ge y 190 with h20 | h20
  · exact go 185 5 em_yc_20 (by omega) (by omega)
  rcases Nat.lt_or_ge y 193 with h21 | h21
  · exact go 190 3 em_yc_21 (by omega) (by omega)
  rcases Nat.lt_or_ge y 197 with h22 | h22
  · exact go 193 4 em_yc_22 (by omega) (by omega)
  rcases Nat.lt_or_ge y 202 with h23 | h23
  · exact go 197 5 em_yc_23 (by omega) (by omega)
  rcases Nat.lt_or_ge y 215 with h24 | h24
  · exact go 202 13 em_yc_24 (by omega) (by omega)
  rcases Nat.lt_or_ge y 226 with h25 | h25
  · exact go 215 11 em_yc_25 (by omega) (by omega)
  rcases Nat.lt_or_ge y 237 with h26 | h26
  · exact go 226 11 em_yc_26 (by omega) (by omega)
  rcases Nat.lt_or_ge y 246 with h27 | h27
  · exact go 237 9 em_yc_27 (by omega) (by omega)
  rcases Nat.lt_or_ge y 254 with h28 | h28
  · exact go 246 8 em_yc_28 (by omega) (by omega)
  rcases Nat.lt_or_ge y 263 with h29 | h29
  · exact go 254 9 em_yc_29 (by omega) (by omega)
  rcases Nat.lt_or_ge y 271 with h30 | h30
  · exact go 263 8 em_yc_30 (by omega) (by omega)
  rcases Nat.lt_or_ge y 277 with h31 | h31
  · exact go 271 6 em_yc_31 (by omega) (by omega)
  rcases Nat.lt_or_ge y 278 with h32 | h32
  · exact go 277 1 em_yc_32 (by omega) (by omega)
  rcases Nat.lt_or_ge y 279 with h33 | h33
  · exact go 278 1 em_yc_33 (by omega) (by omega)
  exact go 279 2 em_yc_34 (by omega) (by omega)

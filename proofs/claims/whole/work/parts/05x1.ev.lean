theorem em_yc_0 : (List.range' 0 40).all em_yok = true := by decide +kernel
theorem em_yc_1 : (List.range' 40 40).all em_yok = true := by decide +kernel
theorem em_yc_2 : (List.range' 80 40).all em_yok = true := by decide +kernel
theorem em_yc_3 : (List.range' 120 40).all em_yok = true := by decide +kernel
theorem em_yc_4 : (List.range' 160 40).all em_yok = true := by decide +kernel
theorem em_yc_5 : (List.range' 200 40).all em_yok = true := by decide +kernel
theorem em_yc_6 : (List.range' 240 40).all em_yok = true := by decide +kernel
theorem em_yc_7 : (List.range' 280 13).all em_yok = true := by decide +kernel
theorem em_yall {y : Nat} (h : y < em_n) : em_yok y = true := by
  have hn : em_n = 293 := rfl
  rw [hn] at h
  have go : ∀ (a k : Nat), (List.range' a k).all em_yok = true → a ≤ y → y < a + k → em_yok y = true := fun a k h1 h2 h3 => List.all_eq_true.mp h1 y (by rw [List.mem_range'_1]; exact ⟨h2, h3⟩)
  rcases Nat.lt_or_ge y 40 with h0 | h0
  · exact go 0 40 em_yc_0 (by omega) (by omega)
  rcases Nat.lt_or_ge y 80 with h1 | h1
  · exact go 40 40 em_yc_1 (by omega) (by omega)
  rcases Nat.lt_or_ge y 120 with h2 | h2
  · exact go 80 40 em_yc_2 (by omega) (by omega)
  rcases Nat.lt_or_ge y 160 with h3 | h3
  · exact go 120 40 em_yc_3 (by omega) (by omega)
  rcases Nat.lt_or_ge y 200 with h4 | h4
  · exact go 160 40 em_yc_4 (by omega) (by omega)
  rcases Nat.lt_or_ge y 240 with h5 | h5
  · exact go 200 40 em_yc_5 (by omega) (by omega)
  rcases Nat.lt_or_ge y 280 with h6 | h6
  · exact go 240 40 em_yc_6 (by omega) (by omega)
  exact go 280 13 em_yc_7 (by omega) (by omega)

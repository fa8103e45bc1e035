theorem em_fok {o i ci f t : Nat} {fin : Bool} (h : em_fld o i = some (ci, f, t, fin)) : ci < 13 ∧ f < em_nf ci ∧ (em_T ci f).2.2.2 = fin ∧ em_tyk (em_ft ci f) t = true ∧ (em_T ci f).1 = em_rn ci ∧
    ((o ≠ ci ∧ (Cond.fieldLinkNest (em_rn o) i (em_rn ci) (em_T ci f).2.1 (em_T ci f).2.2.1 "PartedSide") ∈ lw_tbl) ∨ (Cond.fieldLink (em_rn o) i (em_rn ci) (em_T ci f).2.1 (em_T ci f).2.2.1 ∈ lw_tbl ∧ em_okw (Cond.fieldLink (em_rn o) i (em_rn ci) (em_T ci f).2.1 (em_T ci f).2.2.1) = true)) := by
  obtain ⟨ho, hi⟩ := em_guard rfl h
  have h1 := em_all_at em_fcs ho hi
  unfold em_fck at h1
  rw [h] at h1
  dsimp only at h1
  simp only [Bool.and_eq_true, decide_eq_true_eq] at h1
  obtain ⟨⟨⟨⟨⟨h1, h2⟩, h3⟩, h4⟩, h5⟩, h6⟩ := h1
  refine ⟨Nat.le_of_ble_eq_true h1, Nat.le_of_ble_eq_true h2, h3, h4, h5, ?_⟩
  cases hc : (em_fpl (2000 * o + i)).2 with
  | true =>
    rw [hc] at h6
    simp only [cond_true, Bool.and_eq_true] at h6
    exact Or.inl ⟨fun q => by rw [q, Nat.beq_refl] at h6; exact Bool.noConfusion h6.1, (em_wd_in h6.2).1⟩
  | false => rw [hc] at h6; exact Or.inr (em_wd_in h6)
theorem em_mws {o i kd y : Nat} (h : em_mth o i = some (kd, y)) : (6 ≤ kd → ∀ w ∈ em_cws kd o i, w ∈ lw_tbl ∧ em_okw w = true) ∧ (kd < 6 → y < em_n ∧ y ≠ em_law ∧ ((kd < 3 ∧ em_yk y = kd ∧ Cond.methodLink (em_rn o) i (em_nm y) ∈ lw_tbl ∧ em_okw (Cond.methodLink (em_rn o) i (em_nm y)) = true) ∨ (em_yk y + 3 = kd ∧ Cond.methodLinkNest (em_rn o) i (em_nm y) "PartedSide" ∈ lw_tbl))) := by
  obtain ⟨ho, hi⟩ := em_guard rfl h
  have h1 := em_all_at em_mcs ho hi
  unfold em_mck at h1
  rw [h] at h1
  dsimp only at h1
  cases hc : Nat.ble 6 kd with
  | true =>
    rw [hc] at h1
    simp only [cond_true] at h1
    exact ⟨fun _ => em_wds_in h1, fun q => by have := Nat.le_of_ble_eq_true hc; omega⟩
  | false =>
    have h6 : ¬ 6 ≤ kd := fun q => by rw [Nat.ble_eq_true_of_le q] at hc; cases hc
    rw [hc] at h1
    simp only [cond_false, Bool.and_eq_true] at h1
    obtain ⟨⟨h2, h3⟩, h4⟩ := h1
    refine ⟨fun q => absurd q h6, fun _ => ⟨Nat.le_of_ble_eq_true h2, (fun q => by rw [q, Nat.beq_refl] at h3; cases h3), ?_⟩⟩
    cases hk : Nat.blt kd 3 with
    | true =>
      rw [hk] at h4
      simp only [cond_true, Bool.and_eq_true] at h4
      exact Or.inl ⟨Nat.le_of_ble_eq_true hk, Nat.eq_of_beq_eq_true h4.2, em_wd_in h4.1⟩
    | false =>
      rw [hk] at h4
      simp only [cond_false, Bool.and_eq_true] at h4
      exact Or.inr ⟨Nat.eq_of_beq_eq_true h4.2, (em_wd_in h4.1).1⟩
theorem em_clw {o i ci : Nat} (h : em_cls o i = some ci) : ci < 13 ∧ ∀ w ∈ ([.classLink (em_rn o) i (em_rn ci), .instantiable (em_rn ci) (em_nf ci), .initialized (em_rn ci)] : List Jvm.Cond), w ∈ lw_tbl ∧ em_okw w = true := by
  obtain ⟨ho, hi⟩ := em_guard rfl h
  have h1 := em_all_at em_ccs ho hi
  unfold em_clk at h1
  rw [h] at h1
  dsimp only at h1
  rw [Bool.and_eq_true] at h1
  exact ⟨Nat.le_of_ble_eq_true h1.1, em_wds_in h1.2⟩
theorem em_csw {o i p : Nat} {v : Int} (h : em_cst o i = some (v, p)) : Cond.constant (em_rn o) i (Int32.ofInt v) ∈ lw_tbl ∧ em_okw (Cond.constant (em_rn o) i (Int32.ofInt v)) = true := by
  obtain ⟨ho, hi⟩ := em_guard rfl h
  have h1 := em_all_at em_kcs ho hi
  unfold em_csk at h1
  rw [h] at h1
  dsimp only at h1
  rw [Bool.and_eq_true] at h1
  exact em_wd_in h1.1
theorem em_sfw {o i k p : Nat} (h : em_sfl o i = some (k, p)) : em_sw o i k ∈ lw_tbl ∧ em_okw (em_sw o i k) = true := by
  obtain ⟨ho, hi⟩ := em_guard rfl h
  have h1 := em_all_at em_scs ho hi
  unfold em_sck at h1
  rw [h] at h1
  dsimp only at h1
  rw [Bool.and_eq_true] at h1
  exact em_wd_in h1.1
theorem em_stw {o i k : Nat} (h : em_str o i = some k) : k < 2 ∧ em_so k = em_rn o ∧ em_si k = i := by
  obtain ⟨ho, hi⟩ := em_guard rfl h
  have h1 := em_all_at em_scs ho hi
  unfold em_sck at h1
  rw [h] at h1
  dsimp only at h1
  simp only [Bool.and_eq_true, decide_eq_true_eq] at h1
  exact ⟨Nat.le_of_ble_eq_true h1.2.1.1, h1.2.1.2, Nat.eq_of_beq_eq_true h1.2.2⟩
theorem em_clg {o i p : Nat} {v : Int64} (h : em_csl o i = some (v, p)) : Cond.constantLong (em_rn o) i v ∈ lw_tbl ∧ em_okw (Cond.constantLong (em_rn o) i v) = true := by
  obtain ⟨ho, hi⟩ := em_guard rfl h
  have h1 := em_all_at em_kcs ho hi
  unfold em_csk at h1
  rw [h] at h1
  dsimp only at h1
  rw [Bool.and_eq_true] at h1
  exact em_wd_in h1.2
theorem em_vw : ∀ ci, ci < 13 → vwCl[ci]? = some (em_rn ci, em_T ci, em_nf ci) := by
  intro ci h
  match ci, h with
  | 0, _ => exact rfl
  | 1, _ => exact rfl
  | 2, _ => exact rfl
  | 3, _ => exact rfl
  | 4, _ => exact rfl
  | 5, _ => exact rfl
  | 6, _ => exact rfl
  | 7, _ => exact rfl
  | 8, _ => exact rfl
  | 9, _ => exact rfl
  | 10, _ => exact rfl
  | 11, _ => exact rfl
  | 12, _ => exact rfl
  | ci + 13, h => omega
theorem em_tyok : ∀ ci, ci < 13 → ∀ k, k < em_nf ci → parseFieldDescriptor (em_T ci k).2.2.1 = some (em_ft ci k) := by
  intro ci h
  match ci, h with
  | 0, _ => exact tyX0_ok
  | 1, _ => exact tyX1_ok
  | 2, _ => exact tyX2_ok
  | 3, _ => exact tyX3_ok
  | 4, _ => exact tyX4_ok
  | 5, _ => exact tyX5_ok
  | 6, _ => exact tyX6_ok
  | 7, _ => exact tyX7_ok
  | 8, _ => exact tyX8_ok
  | 9, _ => exact tyX9_ok
  | 10, _ => exact tyX10_ok
  | 11, _ => exact tyX11_ok
  | 12, _ => exact tyX12_ok
  | ci + 13, h => omega
theorem em_nmok : ∀ ci, ci < 13 → ∀ a, a < em_nf ci → ∀ b, b < em_nf ci → a ≠ b → (em_T ci a).2.1 ≠ (em_T ci b).2.1 := by
  intro ci h
  match ci, h with
  | 0, _ => exact nmX0
  | 1, _ => exact nmX1
  | 2, _ => exact nmX2
  | 3, _ => exact nmX3
  | 4, _ => exact nmX4
  | 5, _ => exact nmX5
  | 6, _ => exact nmX6
  | 7, _ => exact nmX7
  | 8, _ => exact nmX8
  | 9, _ => exact nmX9
  | 10, _ => exact nmX10
  | 11, _ => exact nmX11
  | 12, _ => exact nmX12
  | ci + 13, h => omega
theorem em_ucs : (List.range 13).all (fun ci => em_wds (em_upl ci) (u_ws (em_rn ci) (em_T ci) (em_nf ci))) = true := by decide +kernel
theorem em_uin {ci : Nat} (h : ci < 13) : ∀ w ∈ u_ws (em_rn ci) (em_T ci) (em_nf ci), w ∈ lw_tbl ∧ em_okw w = true := em_wds_in (List.all_eq_true.mp em_ucs ci (List.mem_range.mpr h))

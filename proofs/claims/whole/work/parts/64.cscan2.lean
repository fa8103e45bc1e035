/-! the class finds its tokens, two -/
section CSCAN2
variable {d lw : Nat} {b : Nat → Nat} {L : Nat} {I I0 I' I'' : Nat → Nat → Int32} {J J0 J' J'' : Nat → Nat → Int64} {M : em_M} {Q : Option Value → em_M → Prop}
theorem ce_signAt (hX : ct_X b L I) {i : Nat} (hi : I 2 6 = nI i) (hi2 : i < 10000) (h : Q (some (.int (if i < L then nI (b i) else -1))) (em_SH, I, J, em_RT lw)) : em_call d 96 [.ref 2] (em_SH, I, J, em_RT lw) Q := by
  obtain ⟨h1, h2, h3⟩ := hX
  iterate 5 refine em_next rfl ?_
  refine em_c_geE hi h2 (fun z => ?_) (fun z => ?_)
  · rw [if_neg (Nat.not_lt.mpr ((nI_leI (by omega) (by omega)).mp z))] at h
    iterate 1 refine em_next rfl ?_
    exact em_done rfl h
  · have z2 := Nat.not_le.mp (fun e => z ((nI_leI (by omega) (by omega)).mpr e))
    rw [if_pos z2] at h
    iterate 4 refine em_next rfl ?_
    refine em_c_geE hi (y' := nI 2000) rfl (fun z => absurd z (nI_ge (by omega) (by decide))) (fun _ => ?_)
    iterate 4 refine em_next rfl ?_
    refine em_balE (kd := 21) (k := i) rfl rfl (Or.inl rfl) hi (by omega) (by decide) ?_
    iterate 3 refine em_next rfl ?_
    exact em_doneE rfl (h3 i z2).1 h
theorem ce_isBlank {m : Nat} (hm : m < 256) (h : Q (some (.int (em_bb (tk_b m)))) (em_SH, I, J, em_RT lw)) : em_call d 101 [.int (nI m)] (em_SH, I, J, em_RT lw) Q := by
  unfold tk_b at h
  have yes : (m = 9 ∨ m = 10 ∨ m = 13 ∨ m = 32) → em_wp em_sc0 d 101 24 [some (.int (nI m))] [] (em_SH, I, J, em_RT lw) Q := fun e => by
    rw [decide_eq_true e] at h
    iterate 2 refine em_next rfl ?_
    exact em_done rfl h
  have un : ∀ k, k < 256 → nI m = nI k → m = k := fun k hk e => (nI_eq (by omega) (by omega)).mp e
  iterate 3 refine em_next rfl ?_
  refine em_c_eqE rfl (y' := nI 9) rfl (fun z => yes (Or.inl (un 9 (by decide) z))) (fun z1 => ?_)
  iterate 3 refine em_next rfl ?_
  refine em_c_eqE rfl (y' := nI 10) rfl (fun z => yes (Or.inr (Or.inl (un 10 (by decide) z)))) (fun z2 => ?_)
  iterate 3 refine em_next rfl ?_
  refine em_c_eqE rfl (y' := nI 13) rfl (fun z => yes (Or.inr (Or.inr (Or.inl (un 13 (by decide) z))))) (fun z3 => ?_)
  iterate 3 refine em_next rfl ?_
  refine em_c_neE rfl (y' := nI 32) rfl (fun z4 => ?_) (fun z => yes (Or.inr (Or.inr (Or.inr (un 32 (by decide) z)))))
  rw [decide_eq_false (fun e => by
    rcases e with e | e | e | e
    · exact z1 (by rw [e])
    · exact z2 (by rw [e])
    · exact z3 (by rw [e])
    · exact z4 (by rw [e]))] at h
  iterate 1 refine em_next rfl ?_
  exact em_done rfl h
theorem ce_isLetter {m : Nat} (hm : m < 256) (h : Q (some (.int (em_bb (tk_l m)))) (em_SH, I, J, em_RT lw)) : em_call d 102 [.int (nI m)] (em_SH, I, J, em_RT lw) Q := by
  unfold tk_l at h
  iterate 3 refine em_next rfl ?_
  refine em_c_ltE rfl (y' := nI 97) rfl (fun z => ?_) (fun z => ?_)
  · have := (nI_ltI (by omega) (by decide)).mp z
    rw [decide_eq_false (by omega)] at h
    iterate 1 refine em_next rfl ?_
    exact em_done rfl h
  · have z2 : ¬ m < 97 := fun e => z ((nI_ltI (by omega) (by decide)).mpr e)
    iterate 3 refine em_next rfl ?_
    refine em_c_gtE rfl (y' := nI 122) rfl (fun y => ?_) (fun y => ?_)
    · have := (nI_ltI (by decide) (by omega)).mp y
      rw [decide_eq_false (by omega)] at h
      iterate 1 refine em_next rfl ?_
      exact em_done rfl h
    · have y2 : ¬ 122 < m := fun e => y ((nI_ltI (by decide) (by omega)).mpr e)
      rw [decide_eq_true (by omega)] at h
      iterate 2 refine em_next rfl ?_
      exact em_done rfl h
theorem ce_isDigit {m : Nat} (hm : m < 256) (h : Q (some (.int (em_bb (tk_d m)))) (em_SH, I, J, em_RT lw)) : em_call d 103 [.int (nI m)] (em_SH, I, J, em_RT lw) Q := by
  unfold tk_d at h
  iterate 3 refine em_next rfl ?_
  refine em_c_ltE rfl (y' := nI 48) rfl (fun z => ?_) (fun z => ?_)
  · have := (nI_ltI (by omega) (by decide)).mp z
    rw [decide_eq_false (by omega)] at h
    iterate 1 refine em_next rfl ?_
    exact em_done rfl h
  · have z2 : ¬ m < 48 := fun e => z ((nI_ltI (by omega) (by decide)).mpr e)
    iterate 3 refine em_next rfl ?_
    refine em_c_gtE rfl (y' := nI 57) rfl (fun y => ?_) (fun y => ?_)
    · have := (nI_ltI (by decide) (by omega)).mp y
      rw [decide_eq_false (by omega)] at h
      iterate 1 refine em_next rfl ?_
      exact em_done rfl h
    · have y2 : ¬ 57 < m := fun e => y ((nI_ltI (by decide) (by omega)).mpr e)
      rw [decide_eq_true (by omega)] at h
      iterate 2 refine em_next rfl ?_
      exact em_done rfl h
theorem ce_withLetter {x m : Nat} (hm : tk_l m = true) (h : Q (some (.long (lN (32 * x + (m - 96))))) (em_SH, I, J, em_RT lw)) : em_call d 100 [.long (lN x), .int (nI m)] (em_SH, I, J, em_RT lw) Q := by
  unfold tk_l at hm
  have hm2 := of_decide_eq_true hm
  iterate 3 refine em_next rfl ?_
  refine em_tl (y := lN (32 * x)) (lN_mul 32 x) ?_
  iterate 2 refine em_next rfl ?_
  refine em_tl (nI_l (by omega)) ?_
  iterate 1 refine em_next rfl ?_
  refine em_tl (lN_add _ _) ?_
  iterate 2 refine em_next rfl ?_
  refine em_tl (y := lN (32 * x + m - 97)) (lN_sub (b := 97) (by omega)) ?_
  iterate 2 refine em_next rfl ?_
  refine em_tl (y := lN (32 * x + (m - 96))) ((lN_1 _).trans (by congr 1; omega)) ?_
  exact em_done rfl h
/-- a token's kind by its letters -/
theorem ce_kind_l (hK : ck_J J) {N k m : Nat} {x : Int64} (hx : x = lN N) (hN : tk_vd 8 N) (hk : k + m = 21) (h0 : ∀ j, j < k → ¬ tk_wi N = j) (h : Q (some (.int (nI (ck (tk_kd N 21))))) (em_SH, I, J, em_RT lw)) : em_wp em_sc0 d 98 2 [some (.ref 2), some (.long x), none, some (.int (nI k))] [] (em_SH, I, J, em_RT lw) Q := by
  induction m generalizing k with
  | zero =>
    have e : k = 21 := by omega
    subst e
    have e2 : tk_kd N 21 = 1 := by
      unfold tk_kd
      rw [if_neg (fun z => h0 (tk_wi N) z rfl)]
    rw [e2] at h
    iterate 3 refine em_next rfl ?_
    refine em_c_ge (fun _ => ?_) (fun z => absurd (by decide) z)
    iterate 1 refine em_next rfl ?_
    exact em_done rfl h
  | succ m ih =>
    have hv := tk_kw_vd k (by omega)
    have l1 := (tk_vd_lt hN).1
    have l2 := (tk_vd_lt hv).1
    iterate 3 refine em_next rfl ?_
    refine em_c_ge (fun z => absurd z (nI_ge (b := 21) (by omega) (by decide))) (fun _ => ?_)
    iterate 3 refine em_next rfl ?_
    refine em_lalE (k := k) rfl rfl rfl (by omega) (by decide) ?_
    refine em_tl (hK k (by omega)) ?_
    iterate 3 refine em_next rfl ?_
    refine em_z_ne (fun z => ?_) (fun z => ?_)
    · have z2 : ¬ tk_wi N = k := fun e => z ((lg_cmp_eq _ _).mpr (by rw [(tk_wi_eq (by omega)).mpr e, hx]))
      have g := ih (k := k + 1) (by omega) (fun j hj => by
        by_cases e : j = k
        · subst e; exact z2
        · exact h0 j (by omega))
      rw [nI_succ] at g
      iterate 2 refine em_next rfl ?_
      exact g
    · have z1 := lN_inj (by omega) (by omega) (((lg_cmp_eq _ _).mp z).trans hx)
      have z2 : tk_wi N = k := (tk_wi_eq (by omega)).mp z1
      have e : ck (tk_kd N 21) = 256 + k := by
        unfold tk_kd
        rw [if_pos (by omega), z2]
        unfold ck
        rw [if_neg (by omega), if_neg (by omega), if_neg (by omega), if_neg (by omega), if_neg (by omega), if_neg (by omega), if_neg (by omega), if_neg (by omega), if_neg (by omega), if_neg (by omega), if_neg (by omega), if_neg (by omega), if_neg (by omega)]
        omega
      rw [e] at h
      iterate 3 refine em_next rfl ?_
      exact em_doneE rfl (em_nadd 256 k).symm h
theorem ce_letters_l (hX : ct_X b L I) {p k m t : Nat} (hk : p + k + m = L) (hat : I 2 6 = nI (p + k)) (h0 : ∀ j, j < k → tk_l (b (p + j)) = true) (h : ∀ (I' : Nat → Nat → Int32) (k : Nat), ct_f I I' J J → (∀ a, a ≠ 2 → I' a = I a) → I' 2 6 = nI (p + k) → p + k ≤ L → p + k = tk_le b L p → (∀ j, j < k → tk_l (b (p + j)) = true) → em_wp em_sc0 (d + 1) 97 45 [some (.ref 2), some (.int (nI t)), some (.long (lN (tk_en 32 b p k))), none] [] (em_SH, I', J, em_RT lw) Q) : em_wp em_sc0 (d + 1) 97 2 [some (.ref 2), some (.int (nI t)), some (.long (lN (tk_en 32 b p k))), none] [] (em_SH, I, J, em_RT lw) Q := by
  have hL := hX.1
  induction m generalizing k I with
  | zero =>
    iterate 5 refine em_next rfl ?_
    refine em_c_geE hat hX.2.1 (fun _ => ?_) (fun z => absurd (nI_le (by omega) (by omega)) z)
    exact h I k ct_f.rf (fun _ _ => rfl) hat (by omega) (tk_end_eq (by omega) (fun j j1 j2 => ⟨by omega, by have := h0 (j - p) (by omega); rw [show p + (j - p) = j by omega] at this; exact this⟩) (fun z => by omega)).symm h0
  | succ m ih =>
    have hb := hX.2.2 (p + k) (by omega)
    iterate 5 refine em_next rfl ?_
    refine em_c_geE hat hX.2.1 (fun z => absurd z (nI_ge (by omega) (by omega))) (fun _ => ?_)
    iterate 1 refine em_next rfl ?_
    refine em_inv_call rfl (ce_signAt hX hat (by omega) ?_)
    rw [if_pos (by omega)]
    refine em_inv_call rfl (ce_isLetter hb.2 ?_)
    iterate 1 refine em_next rfl ?_
    cases hc : tk_l (b (p + k)) with
    | false =>
      refine em_z_eq (fun _ => ?_) (fun z => absurd rfl z)
      exact h I k ct_f.rf (fun _ _ => rfl) hat (by omega) (tk_end_eq (by omega) (fun j j1 j2 => ⟨by omega, by have := h0 (j - p) (by omega); rw [show p + (j - p) = j by omega] at this; exact this⟩) (fun z => by rw [hc] at z; exact absurd z.2 (by decide))).symm h0
    | true =>
      refine em_z_eq (fun z => absurd z (by decide)) (fun _ => ?_)
      iterate 2 refine em_next rfl ?_
      refine em_inv_call rfl (ce_signAt hX hat (by omega) ?_)
      rw [if_pos (by omega)]
      refine em_inv_call rfl (ce_withLetter hc ?_)
      iterate 6 refine em_next rfl ?_
      refine em_tp (y := nI (p + (k + 1))) ?_ ?_
      · show I 2 6 + 1 = nI (p + (k + 1))
        rw [hat, ← nI_succ]
        rfl
      iterate 2 refine em_next rfl ?_
      exact ih (k := k + 1) (I := em_u I 2 6 (nI (p + (k + 1)))) (ct_f.X (J := J) (J' := J) ct_f.at hX) (by omega) em_u_self (fun j hj => by
        by_cases e : j = k
        · subst e; exact hc
        · exact h0 j (by omega)) (fun I' k' f f2 => h I' k' (ct_f.at.tr f) (fun a ha => (f2 a ha).trans (em_u_row ha)))
theorem ce_digits_l (hX : ct_X b L I) {p k m t : Nat} (hk : p + k + m = L) (hat : I 2 6 = nI (p + k)) (h0 : ∀ j, j < k → tk_d (b (p + j)) = true) (h : ∀ (I' : Nat → Nat → Int32) (k : Nat), ct_f I I' J J → (∀ a, a ≠ 2 → I' a = I a) → I' 2 6 = nI (p + k) → p + k ≤ L → p + k = tk_de b L p → em_wp em_sc0 (d + 1) 99 52 [some (.ref 2), some (.int (nI t)), some (.long (lN (tk_nv b p k))), none] [] (em_SH, I', J, em_RT lw) Q) : em_wp em_sc0 (d + 1) 99 2 [some (.ref 2), some (.int (nI t)), some (.long (lN (tk_nv b p k))), none] [] (em_SH, I, J, em_RT lw) Q := by
  have hL := hX.1
  induction m generalizing k I with
  | zero =>
    iterate 5 refine em_next rfl ?_
    refine em_c_geE hat hX.2.1 (fun _ => ?_) (fun z => absurd (nI_le (by omega) (by omega)) z)
    exact h I k ct_f.rf (fun _ _ => rfl) hat (by omega) (tk_end_eq (by omega) (fun j j1 j2 => ⟨by omega, by have := h0 (j - p) (by omega); rw [show p + (j - p) = j by omega] at this; exact this⟩) (fun z => by omega)).symm
  | succ m ih =>
    have hb := hX.2.2 (p + k) (by omega)
    iterate 5 refine em_next rfl ?_
    refine em_c_geE hat hX.2.1 (fun z => absurd z (nI_ge (by omega) (by omega))) (fun _ => ?_)
    iterate 1 refine em_next rfl ?_
    refine em_inv_call rfl (ce_signAt hX hat (by omega) ?_)
    rw [if_pos (by omega)]
    refine em_inv_call rfl (ce_isDigit hb.2 ?_)
    iterate 1 refine em_next rfl ?_
    cases hc : tk_d (b (p + k)) with
    | false =>
      refine em_z_eq (fun _ => ?_) (fun z => absurd rfl z)
      exact h I k ct_f.rf (fun _ _ => rfl) hat (by omega) (tk_end_eq (by omega) (fun j j1 j2 => ⟨by omega, by have := h0 (j - p) (by omega); rw [show p + (j - p) = j by omega] at this; exact this⟩) (fun z => by rw [hc] at z; exact absurd z.2 (by decide))).symm
    | true =>
      have hc2 : 48 ≤ b (p + k) ∧ b (p + k) ≤ 57 := of_decide_eq_true hc
      refine em_z_eq (fun z => absurd z (by decide)) (fun _ => ?_)
      iterate 3 refine em_next rfl ?_
      refine em_tl (y := lN (10 * tk_nv b p k)) (lN_mul 10 _) ?_
      iterate 1 refine em_next rfl ?_
      refine em_inv_call rfl (ce_signAt hX hat (by omega) ?_)
      rw [if_pos (by omega)]
      iterate 1 refine em_next rfl ?_
      refine em_tl (nI_l (by omega)) ?_
      iterate 1 refine em_next rfl ?_
      refine em_tl (lN_add _ _) ?_
      iterate 2 refine em_next rfl ?_
      refine em_tl (y := lN (tk_nv b p (k + 1))) ((lN_sub (b := 48) (by omega)).trans (by rw [tk_nv]; congr 1; omega)) ?_
      iterate 6 refine em_next rfl ?_
      refine em_tp (y := nI (p + (k + 1))) ?_ ?_
      · show I 2 6 + 1 = nI (p + (k + 1))
        rw [hat, ← nI_succ]
        rfl
      iterate 2 refine em_next rfl ?_
      exact ih (k := k + 1) (I := em_u I 2 6 (nI (p + (k + 1)))) (ct_f.X (J := J) (J' := J) ct_f.at hX) (by omega) em_u_self (fun j hj => by
        by_cases e : j = k
        · subst e; exact hc
        · exact h0 j (by omega)) (fun I' k' f f2 => h I' k' (ct_f.at.tr f) (fun a ha => (f2 a ha).trans (em_u_row ha)))
end CSCAN2

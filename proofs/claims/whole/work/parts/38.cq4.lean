/-! the class: hours with cold -/
theorem em_or_xor (n : Nat) (p q : Nat → Bool) : em_or n p ^^^ em_or n q = em_or n (fun b => (p b).xor (q b)) := em_or_ext (Nat.xor_lt_two_pow (em_or_lt _ _) (em_or_lt _ _)) (fun b hb => by rw [Nat.testBit_xor, em_or_bit hb, em_or_bit hb])
theorem em_ct_ge {n : Nat} {p : Nat → Bool} (m : Nat) (h : ∀ b, n ≤ b → p b = false) : em_ct (n + m) p = em_ct n p := by
  induction m with
  | zero => rfl
  | succ m ih =>
    rw [← Nat.add_assoc, em_ct, ih, h (n + m) (by omega)]
    rfl
theorem em_pc_lt {n s : Nat} (hn : n ≤ 9) (hs : s < 2 ^ n) : em_pc s = em_ct n (fun b => s.testBit b) := by
  obtain ⟨m, e⟩ : ∃ m, n + m = 9 := ⟨9 - n, by omega⟩
  have h9 : em_ct (n + m) (fun b => s.testBit b) = em_ct n (fun b => s.testBit b) := em_ct_ge m (fun b hb => Nat.testBit_lt_two_pow (Nat.lt_of_lt_of_le hs (Nat.pow_le_pow_right (by decide) hb)))
  rw [e] at h9
  exact h9
theorem em_pc_or {n : Nat} (hn : n ≤ 9) (p : Nat → Bool) : em_pc (em_or n p) = em_ct n p := by
  rw [em_pc_lt hn (em_or_lt n p)]
  exact em_ct_congr (fun b hb => em_or_bit hb)
section CQ4
variable {d lw : Nat} {P : em_Pl} {X Y : em_Nt} {lp : Bool} {part : Nat → Int32} {I I0 : Nat → Nat → Int32} {J : Nat → Nat → Int64} {M : em_M} {Q : Option Value → em_M → Prop} {v : List Int32} {sd : Int32}
theorem ce_cold_l_now (hP : cp_P I P.1 P.2.1 P.2.2.1 P.2.2.2.1) (hN : ct_N I 42 P.1 Y.1 Y.2.1 P.2.2.2.2 Y.2.2) {k m : Nat} {o : Option Value} (hk : k + m = P.1) (h : ∀ (I' : Nat → Nat → Int32) (o' : Option Value), em_fK I I' → em_wp em_sc0 (d + 3) 49 71 [some (.ref 24), some (.ref 42), some (.int (sd)), some (.int (nI (em_or P.1 (em_ch P false sd Y)))), some (.int (nI P.1)), o'] [] (em_SH, I', J, em_RT lw) Q) : em_wp em_sc0 (d + 3) 49 5 [some (.ref 24), some (.ref 42), some (.int (sd)), some (.int (nI (em_or k (em_ch P false sd Y)))), some (.int (nI k)), o] [] (em_SH, I, J, em_RT lw) Q := by
  have hn := hP.1.1
  induction m generalizing k I o with
  | zero =>
    have e : k = P.1 := by omega
    subst e
    iterate 4 refine em_next rfl ?_
    refine em_c_geE rfl hP.1.2.1 (fun _ => ?_) (fun h1 => absurd (nI_le (Nat.le_refl _) (by omega)) h1)
    exact h I o em_fK.rf
  | succ m ih =>
    iterate 4 refine em_next rfl ?_
    refine em_c_geE rfl hP.1.2.1 (fun h1 => absurd h1 (nI_ge (by omega) (by omega))) (fun _ => ?_)
    iterate 3 refine em_next rfl ?_
    refine em_inv_call rfl (ce_face_now (hab := P.2.2.2.2) (part := Y.2.2) hP hN.1.2.2.1 hN.1.1 hN.1.2.2.2 hN.1.2.1 (by omega) (hN.2 k (by omega)).1 (hN.2 k (by omega)).2 (fun I1 a1 a2 => ?_))
    have f1 : em_fK I I1 := fun a ha => a1 a (fun q => ha (by rw [q]; decide))
    have hP1 := hP.keep f1.P
    iterate 7 refine em_next rfl ?_
    refine em_inv_call rfl (ce_lot ?_)
    iterate 1 refine em_next rfl ?_
    refine em_inv_call rfl (ce_chillChance hP1 a2 (fun I2 b1 => ?_))
    have f2 : em_fK I I2 := f1.tr (fun a ha => b1 a (fun q => ha (by rw [q]; decide)))
    have hh : I1 42 5 = nI Y.2.1 := by rw [a1 _ (by decide)]; exact hN.1.2.2.2
    iterate 1 refine em_next rfl ?_
    have g := fun o => ih (k := k + 1) (I := I2) (o := o) (hP.keep f2.P) (hN.keep (f2 _ (by decide)) (f2 _ (by decide)) (f2 _ (by decide))) (by omega) (fun I' o' f => h I' o' (f2.tr f))
    have eo : em_or (k + 1) (em_ch P false sd Y) = em_or k (em_ch P false sd Y) + (if em_ch P false sd Y k then 2 ^ k else 0) := rfl
    have ec : em_ch P false sd Y k = decide (em_lot sd (16 * nI Y.2.1 + nI k) < em_chc P Y k) := rfl
    refine em_c_geE (congrArg (fun z => em_lot sd (16 * z + nI k)) hh) (y' := em_chc P Y k) rfl (fun q => ?_) (fun q => ?_)
    · rw [eo, ec, decide_eq_false (Int32.not_lt.mpr q), if_neg (by decide), Nat.add_zero, nI_succ] at g
      iterate 5 refine em_next rfl ?_
      refine em_z_eq (fun _ => ?_) (fun q => absurd rfl q)
      iterate 1 refine em_next rfl ?_
      have g2 := g (some (.int (0)))
      iterate 1 refine em_next rfl ?_
      refine em_tp (y := nI (em_or k (em_ch P false sd Y))) Int32.or_zero ?_
      iterate 3 refine em_next rfl ?_
      exact g2
    · rw [eo, ec, decide_eq_true (Int32.not_le.mp q), if_pos rfl, nI_succ] at g
      iterate 6 refine em_next rfl ?_
      refine em_z_eq (fun q => absurd q (by decide)) (fun _ => ?_)
      iterate 5 refine em_next rfl ?_
      refine em_tp (em_join1 k (by omega) _ (em_or_lt _ _)).1 ?_
      iterate 3 refine em_next rfl ?_
      exact g (some (.int (1)))
theorem ce_passCold_now (hP : cp_P I P.1 P.2.1 P.2.2.1 P.2.2.2.1) (hN : ct_N I 42 P.1 Y.1 Y.2.1 P.2.2.2.2 Y.2.2) (hb1 : Y.2.1 + 1 < 1000000) {s' : Int32} (es : s' = sd)
    (h : ∀ I' : Nat → Nat → Int32, (∀ a, a ∉ [29, 32, 35, 38, 39, 45, 42] → I' a = I a) → ct_N I' 42 P.1 (em_step P false sd Y).1 (Y.2.1 + 1) P.2.2.2.2 (em_step P false sd Y).2.2 → I' 42 6 = I 42 6 + nI (em_ct P.1 (em_ch P false sd Y)) → (∀ b, P.1 ≤ b → I' 45 b = I 45 b) → Q none (em_SH, I', J, em_RT lw)) :
    em_call (d + 3) 49 [.ref 24, .ref 42, .int s'] (em_SH, I, J, em_RT lw) Q := by
  have hn := hP.1.1
  have hp9 := em_pow9 hn
  subst es
  iterate 4 refine em_next rfl ?_
  refine ce_cold_l_now (k := 0) (m := P.1) (Y := Y) hP hN (by omega) (fun I1 o1 a1 => ?_)
  iterate 2 refine em_next rfl ?_
  refine em_inv_call rfl (ce_passHour_now (n := P.1) (rg := P.2.1) (cold := P.2.2.1) (f := P.2.2.2.1) (hab := P.2.2.2.2) (r := Y.1) (hh := Y.2.1) (part := Y.2.2) (hP.keep a1.P) (hN.keep (a1 _ (by decide)) (a1 _ (by decide)) (a1 _ (by decide))) hb1 (fun I2 b1 b2 b3 b4 => ?_))
  have hlt : em_or P.1 (em_ch P false s' Y) < 2 ^ P.1 := em_or_lt _ _
  iterate 10 refine em_next rfl ?_
  refine em_inv_call rfl (ce_bits rfl (by omega) ?_)
  iterate 2 refine em_next rfl ?_
  refine em_done rfl ?_
  show Q none (em_SH, em_u (em_u I2 42 4 (I2 42 4 ^^^ nI (em_or P.1 (em_ch P false s' Y)))) 42 6 (I2 42 6 + nI (em_pc (em_or P.1 (em_ch P false s' Y)))), J, em_RT lw)
  have hr : ∀ a, a ≠ 42 → em_u (em_u I2 42 4 (I2 42 4 ^^^ nI (em_or P.1 (em_ch P false s' Y)))) 42 6 (I2 42 6 + nI (em_pc (em_or P.1 (em_ch P false s' Y)))) a = I2 a := fun a ha => by rw [em_u_row ha, em_u_row ha]
  have er : (em_step P true 0 Y).1 ^^^ em_or P.1 (em_ch P false s' Y) = (em_step P false s' Y).1 := by
    unfold em_step
    simp only [em_ch_still, Bool.xor_false]
    exact em_or_xor _ _ _
  refine h _ (fun a ha => ?_) ⟨⟨em_or_lt _ _, hb1, ?_, ?_⟩, fun b hb => ?_⟩ ?_ (fun b hb => ?_)
  · rw [hr a (fun q => ha (by rw [q]; decide)), b1 a (fun q => ha (by revert q; simp; rintro (rfl | rfl | rfl | rfl | rfl) <;> simp))]
    exact a1 a (fun q => ha (by revert q; simp; rintro (rfl | rfl | rfl | rfl | rfl) <;> simp))
  · rw [em_u_ne (by decide), em_u_self, b2.1.2.2.1, em_xr]
    exact congrArg nI er
  · rw [em_u_ne (by decide), em_u_ne (by decide)]
    exact b2.1.2.2.2
  · rw [hr _ (by decide), hr _ (by decide)]
    exact b2.2 b hb
  · rw [em_u_self, b3, a1 _ (by decide), em_pc_or hn]
  · rw [hr _ (by decide), b4 b hb, a1 _ (by decide)]
theorem ce_cold_l_dnight (hP : cp_P I P.1 P.2.1 P.2.2.1 P.2.2.2.1) (hN : ct_N I 271 P.1 Y.1 Y.2.1 P.2.2.2.2 Y.2.2) {k m : Nat} {o : Option Value} (hk : k + m = P.1) (h : ∀ (I' : Nat → Nat → Int32) (o' : Option Value), em_fK I I' → em_wp em_sc0 (d + 3) 49 71 [some (.ref 24), some (.ref 271), some (.int (sd)), some (.int (nI (em_or P.1 (em_ch P false sd Y)))), some (.int (nI P.1)), o'] [] (em_SH, I', J, em_RT lw) Q) : em_wp em_sc0 (d + 3) 49 5 [some (.ref 24), some (.ref 271), some (.int (sd)), some (.int (nI (em_or k (em_ch P false sd Y)))), some (.int (nI k)), o] [] (em_SH, I, J, em_RT lw) Q := by
  have hn := hP.1.1
  induction m generalizing k I o with
  | zero =>
    have e : k = P.1 := by omega
    subst e
    iterate 4 refine em_next rfl ?_
    refine em_c_geE rfl hP.1.2.1 (fun _ => ?_) (fun h1 => absurd (nI_le (Nat.le_refl _) (by omega)) h1)
    exact h I o em_fK.rf
  | succ m ih =>
    iterate 4 refine em_next rfl ?_
    refine em_c_geE rfl hP.1.2.1 (fun h1 => absurd h1 (nI_ge (by omega) (by omega))) (fun _ => ?_)
    iterate 3 refine em_next rfl ?_
    refine em_inv_call rfl (ce_face_dnight (hab := P.2.2.2.2) (part := Y.2.2) hP hN.1.2.2.1 hN.1.1 hN.1.2.2.2 hN.1.2.1 (by omega) (hN.2 k (by omega)).1 (hN.2 k (by omega)).2 (fun I1 a1 a2 => ?_))
    have f1 : em_fK I I1 := fun a ha => a1 a (fun q => ha (by rw [q]; decide))
    have hP1 := hP.keep f1.P
    iterate 7 refine em_next rfl ?_
    refine em_inv_call rfl (ce_lot ?_)
    iterate 1 refine em_next rfl ?_
    refine em_inv_call rfl (ce_chillChance hP1 a2 (fun I2 b1 => ?_))
    have f2 : em_fK I I2 := f1.tr (fun a ha => b1 a (fun q => ha (by rw [q]; decide)))
    have hh : I1 271 5 = nI Y.2.1 := by rw [a1 _ (by decide)]; exact hN.1.2.2.2
    iterate 1 refine em_next rfl ?_
    have g := fun o => ih (k := k + 1) (I := I2) (o := o) (hP.keep f2.P) (hN.keep (f2 _ (by decide)) (f2 _ (by decide)) (f2 _ (by decide))) (by omega) (fun I' o' f => h I' o' (f2.tr f))
    have eo : em_or (k + 1) (em_ch P false sd Y) = em_or k (em_ch P false sd Y) + (if em_ch P false sd Y k then 2 ^ k else 0) := rfl
    have ec : em_ch P false sd Y k = decide (em_lot sd (16 * nI Y.2.1 + nI k) < em_chc P Y k) := rfl
    refine em_c_geE (congrArg (fun z => em_lot sd (16 * z + nI k)) hh) (y' := em_chc P Y k) rfl (fun q => ?_) (fun q => ?_)
    · rw [eo, ec, decide_eq_false (Int32.not_lt.mpr q), if_neg (by decide), Nat.add_zero, nI_succ] at g
      iterate 5 refine em_next rfl ?_
      refine em_z_eq (fun _ => ?_) (fun q => absurd rfl q)
      iterate 1 refine em_next rfl ?_
      have g2 := g (some (.int (0)))
      iterate 1 refine em_next rfl ?_
      refine em_tp (y := nI (em_or k (em_ch P false sd Y))) Int32.or_zero ?_
      iterate 3 refine em_next rfl ?_
      exact g2
    · rw [eo, ec, decide_eq_true (Int32.not_le.mp q), if_pos rfl, nI_succ] at g
      iterate 6 refine em_next rfl ?_
      refine em_z_eq (fun q => absurd q (by decide)) (fun _ => ?_)
      iterate 5 refine em_next rfl ?_
      refine em_tp (em_join1 k (by omega) _ (em_or_lt _ _)).1 ?_
      iterate 3 refine em_next rfl ?_
      exact g (some (.int (1)))
theorem ce_passCold_dnight (hP : cp_P I P.1 P.2.1 P.2.2.1 P.2.2.2.1) (hN : ct_N I 271 P.1 Y.1 Y.2.1 P.2.2.2.2 Y.2.2) (hb1 : Y.2.1 + 1 < 1000000) {s' : Int32} (es : s' = sd)
    (h : ∀ I' : Nat → Nat → Int32, (∀ a, a ∉ [29, 32, 35, 38, 39, 274, 271] → I' a = I a) → ct_N I' 271 P.1 (em_step P false sd Y).1 (Y.2.1 + 1) P.2.2.2.2 (em_step P false sd Y).2.2 → I' 271 6 = I 271 6 + nI (em_ct P.1 (em_ch P false sd Y)) → (∀ b, P.1 ≤ b → I' 274 b = I 274 b) → Q none (em_SH, I', J, em_RT lw)) :
    em_call (d + 3) 49 [.ref 24, .ref 271, .int s'] (em_SH, I, J, em_RT lw) Q := by
  have hn := hP.1.1
  have hp9 := em_pow9 hn
  subst es
  iterate 4 refine em_next rfl ?_
  refine ce_cold_l_dnight (k := 0) (m := P.1) (Y := Y) hP hN (by omega) (fun I1 o1 a1 => ?_)
  iterate 2 refine em_next rfl ?_
  refine em_inv_call rfl (ce_passHour_dnight (n := P.1) (rg := P.2.1) (cold := P.2.2.1) (f := P.2.2.2.1) (hab := P.2.2.2.2) (r := Y.1) (hh := Y.2.1) (part := Y.2.2) (hP.keep a1.P) (hN.keep (a1 _ (by decide)) (a1 _ (by decide)) (a1 _ (by decide))) hb1 (fun I2 b1 b2 b3 b4 => ?_))
  have hlt : em_or P.1 (em_ch P false s' Y) < 2 ^ P.1 := em_or_lt _ _
  iterate 10 refine em_next rfl ?_
  refine em_inv_call rfl (ce_bits rfl (by omega) ?_)
  iterate 2 refine em_next rfl ?_
  refine em_done rfl ?_
  show Q none (em_SH, em_u (em_u I2 271 4 (I2 271 4 ^^^ nI (em_or P.1 (em_ch P false s' Y)))) 271 6 (I2 271 6 + nI (em_pc (em_or P.1 (em_ch P false s' Y)))), J, em_RT lw)
  have hr : ∀ a, a ≠ 271 → em_u (em_u I2 271 4 (I2 271 4 ^^^ nI (em_or P.1 (em_ch P false s' Y)))) 271 6 (I2 271 6 + nI (em_pc (em_or P.1 (em_ch P false s' Y)))) a = I2 a := fun a ha => by rw [em_u_row ha, em_u_row ha]
  have er : (em_step P true 0 Y).1 ^^^ em_or P.1 (em_ch P false s' Y) = (em_step P false s' Y).1 := by
    unfold em_step
    simp only [em_ch_still, Bool.xor_false]
    exact em_or_xor _ _ _
  refine h _ (fun a ha => ?_) ⟨⟨em_or_lt _ _, hb1, ?_, ?_⟩, fun b hb => ?_⟩ ?_ (fun b hb => ?_)
  · rw [hr a (fun q => ha (by rw [q]; decide)), b1 a (fun q => ha (by revert q; simp; rintro (rfl | rfl | rfl | rfl | rfl) <;> simp))]
    exact a1 a (fun q => ha (by revert q; simp; rintro (rfl | rfl | rfl | rfl | rfl) <;> simp))
  · rw [em_u_ne (by decide), em_u_self, b2.1.2.2.1, em_xr]
    exact congrArg nI er
  · rw [em_u_ne (by decide), em_u_ne (by decide)]
    exact b2.1.2.2.2
  · rw [hr _ (by decide), hr _ (by decide)]
    exact b2.2 b hb
  · rw [em_u_self, b3, a1 _ (by decide), em_pc_or hn]
  · rw [hr _ (by decide), b4 b hb, a1 _ (by decide)]
end CQ4

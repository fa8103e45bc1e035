/-! the class: its questions, ten: one asked of, all counted, beds changed -/
section CQ11
variable {d lw : Nat} {P : em_Pl} {X Y : em_Nt} {D : em_Td} {lp : Bool} {part nm tn : Nat → Int32} {I I0 : Nat → Nat → Int32} {J : Nat → Nat → Int64} {M : em_M} {Q : Option Value → em_M → Prop} {v : List Int32} {sd : Int32}
theorem cq_sleeper (hS : cl_S I lp P X) (hx : ∀ b, b < P.1 → I 43 b = nm b ∧ I 46 b = tn b) {b w : Int32} (h : ∀ I' : Nat → Nat → Int32, em_fW I I' → cl_S I' lp P X → Q (some (.int (sp_sleeper P X nm tn b w))) (em_SH, I', J, em_RT lw)) : em_call (d + 8) 126 [.ref 1, .int b, .int w] (em_SH, I, J, em_RT lw) Q := by
  have hn := hS.1.1.1
  have hr := hS.2.1.1.1
  have hp9 := em_pow9 hn
  have hN := hS.2.1
  unfold sp_sleeper at h
  iterate 3 refine em_next rfl ?_
  refine em_inv_call rfl (ce_hasBed hS.1 ?_)
  iterate 1 refine em_next rfl ?_
  refine em_b_ne (fun g => ?_) (fun g => ?_)
  · obtain ⟨s, hs, rfl, es⟩ := em_bedN hn g
    rw [es] at h
    iterate 5 refine em_next rfl ?_
    refine em_inv_call rfl (ce_face_now (hab := P.2.2.2.2) (part := X.2.2) hS.1 hN.1.2.2.1 hN.1.1 hN.1.2.2.2 hN.1.2.1 hs (hN.2 s hs).1 (hN.2 s hs).2 (fun I1 a1 a2 => ?_))
    have f1 : em_fK I I1 := fun a ha => a1 a (fun q => ha (by rw [q]; decide))
    have hS1 := hS.kK f1
    have h1 := h I1 f1.C.W hS1
    iterate 1 refine em_next rfl ?_
    by_cases g2 : em_ok 0 9 w
    · obtain ⟨t, ht, rfl, et⟩ := em_nat (m := 9) (by decide) g2.1 g2.2
      rw [if_pos ⟨g, g2⟩, et] at h h1
      match t, ht, h, h1 with
      | 0, _, h, h1 =>
        iterate 4 refine em_next rfl ?_
        refine em_tp hS1.rw ?_
        iterate 4 refine em_next rfl ?_
        exact em_doneE rfl (em_bitC _ (by omega) s (by omega)) h1
      | 1, _, h, h1 =>
        iterate 5 refine em_next rfl ?_
        refine em_ialn rfl rfl (by omega) (by decide) ?_
        exact em_doneE rfl (hS1.2.1.2 s hs).1 h1
      | 2, _, h, h1 =>
        iterate 5 refine em_next rfl ?_
        refine em_ialn rfl rfl (by omega) (by decide) ?_
        exact em_doneE rfl (hS1.2.1.2 s hs).2 h1
      | 3, _, h, h1 =>
        iterate 5 refine em_next rfl ?_
        refine em_ialn rfl rfl (by omega) (by decide) ?_
        exact em_doneE rfl (hS1.1.2.1 s hs) h1
      | 4, _, h, h1 =>
        iterate 5 refine em_next rfl ?_
        refine em_ialn rfl rfl (by omega) (by decide) ?_
        refine em_doneE rfl ?_ h1
        show I1 43 s = nm s
        rw [f1 _ (by decide)]
        exact (hx s hs).1
      | 5, _, h, h1 =>
        iterate 3 refine em_next rfl ?_
        refine em_inv_call rfl (ce_liesLeft hS1.1 a2 (fun I2 b1 => ?_))
        have f2 : em_fK I I2 := f1.tr (fun a ha => b1 a (fun q => ha (by rw [q]; decide)))
        have h2 := h I2 f2.C.W (hS.kK f2)
        iterate 1 refine em_next rfl ?_
        refine em_b_eq (fun q => ?_) (fun q => ?_)
        · have e : ey_slv P X nm tn s 5 = 0 := by
            exact congrArg em_bb (decide_eq_false (p := 0 < P.2.2.2.1 0 (em_face P X s)) q)
          rw [e] at h2
          iterate 1 refine em_next rfl ?_
          exact em_done rfl h2
        · have e : ey_slv P X nm tn s 5 = 1 := by
            exact congrArg em_bb (decide_eq_true (p := 0 < P.2.2.2.1 0 (em_face P X s)) q)
          rw [e] at h2
          iterate 2 refine em_next rfl ?_
          exact em_done rfl h2
      | 6, _, h, h1 =>
        iterate 3 refine em_next rfl ?_
        refine em_inv_call rfl (ce_partingGrowth hS1.1 a2 (fun I2 b1 => ?_))
        have f2 : em_fK I I2 := f1.tr (fun a ha => b1 a (fun q => ha (by rw [q]; decide)))
        exact em_done rfl (h I2 f2.C.W (hS.kK f2))
      | 7, _, h, h1 =>
        iterate 3 refine em_next rfl ?_
        refine em_inv_call rfl (ce_chillChance hS1.1 a2 (fun I2 b1 => ?_))
        have f2 : em_fK I I2 := f1.tr (fun a ha => b1 a (fun q => ha (by rw [q]; decide)))
        exact em_done rfl (h I2 f2.C.W (hS.kK f2))
      | 8, _, h, h1 =>
        iterate 3 refine em_next rfl ?_
        refine em_inv_call rfl (ce_turningCost hS1.1 a2 (fun I2 b1 => ?_))
        have f2 : em_fK I I2 := f1.tr (fun a ha => b1 a (fun q => ha (by rw [q]; decide)))
        exact em_done rfl (h I2 f2.C.W (hS.kK f2))
      | 9, _, h, h1 =>
        iterate 5 refine em_next rfl ?_
        refine em_ialn rfl rfl (by omega) (by decide) ?_
        refine em_doneE rfl ?_ h1
        show I1 46 s = tn s
        rw [f1 _ (by decide)]
        exact (hx s hs).2
      | t + 10, ht, _, _ => omega
    · rw [if_neg (fun q => g2 q.2)] at h1
      refine em_tsd rfl (em_out (m := 9) (by decide) g2) ?_
      iterate 1 refine em_next rfl ?_
      exact em_done rfl h1
  · rw [if_neg (fun q => g q.1)] at h
    iterate 1 refine em_next rfl ?_
    exact em_done rfl (h I em_fW.rf hS)
theorem ce_sum_l_now_turnings {n k m : Nat} (hn : n ≤ 9) (hk : k + m = n) (h : Q (some (.int (ey_sI (I 46) n))) (em_SH, I, J, em_RT lw)) : em_wp em_sc0 d 166 4 [some (.ref 46), some (.int (nI n)), some (.int (ey_sI (I 46) k)), some (.int (nI k))] [] (em_SH, I, J, em_RT lw) Q := by
  induction m generalizing k with
  | zero =>
    have e : k = n := by omega
    subst e
    iterate 3 refine em_next rfl ?_
    refine em_c_ge (fun _ => ?_) (fun h1 => absurd (nI_le (Nat.le_refl _) (by omega)) h1)
    iterate 1 refine em_next rfl ?_
    exact em_done rfl h
  | succ m ih =>
    iterate 3 refine em_next rfl ?_
    refine em_c_ge (fun h1 => absurd h1 (nI_ge (by omega) (by omega))) (fun _ => ?_)
    iterate 4 refine em_next rfl ?_
    refine em_c_ge (fun h1 => absurd h1 (nI_ge (b := 9) (by omega) (by decide))) (fun _ => ?_)
    iterate 3 refine em_next rfl ?_
    refine em_ialn rfl rfl (by omega) (by decide) ?_
    have g := ih (k := k + 1) (by omega)
    rw [ey_sI, nI_succ] at g
    iterate 4 refine em_next rfl ?_
    exact g
theorem ce_sum_now_turnings {n : Nat} {a : Int32} (ea : a = nI n) (hn : n ≤ 9) (h : Q (some (.int (ey_sI (I 46) n))) (em_SH, I, J, em_RT lw)) : em_call d 166 [.ref 46, .int a] (em_SH, I, J, em_RT lw) Q := by
  subst ea
  iterate 4 refine em_next rfl ?_
  exact ce_sum_l_now_turnings (k := 0) (m := n) hn (by omega) h
theorem ce_sum_l_now_habits {n k m : Nat} (hn : n ≤ 9) (hk : k + m = n) (h : Q (some (.int (ey_sI (I 44) n))) (em_SH, I, J, em_RT lw)) : em_wp em_sc0 d 166 4 [some (.ref 44), some (.int (nI n)), some (.int (ey_sI (I 44) k)), some (.int (nI k))] [] (em_SH, I, J, em_RT lw) Q := by
  induction m generalizing k with
  | zero =>
    have e : k = n := by omega
    subst e
    iterate 3 refine em_next rfl ?_
    refine em_c_ge (fun _ => ?_) (fun h1 => absurd (nI_le (Nat.le_refl _) (by omega)) h1)
    iterate 1 refine em_next rfl ?_
    exact em_done rfl h
  | succ m ih =>
    iterate 3 refine em_next rfl ?_
    refine em_c_ge (fun h1 => absurd h1 (nI_ge (by omega) (by omega))) (fun _ => ?_)
    iterate 4 refine em_next rfl ?_
    refine em_c_ge (fun h1 => absurd h1 (nI_ge (b := 9) (by omega) (by decide))) (fun _ => ?_)
    iterate 3 refine em_next rfl ?_
    refine em_ialn rfl rfl (by omega) (by decide) ?_
    have g := ih (k := k + 1) (by omega)
    rw [ey_sI, nI_succ] at g
    iterate 4 refine em_next rfl ?_
    exact g
theorem ce_sum_now_habits {n : Nat} {a : Int32} (ea : a = nI n) (hn : n ≤ 9) (h : Q (some (.int (ey_sI (I 44) n))) (em_SH, I, J, em_RT lw)) : em_call d 166 [.ref 44, .int a] (em_SH, I, J, em_RT lw) Q := by
  subst ea
  iterate 4 refine em_next rfl ?_
  exact ce_sum_l_now_habits (k := 0) (m := n) hn (by omega) h
theorem ce_full {hl : Nat → Bool} (hF : ∀ s, s < 3 → I 50 s = em_bb (hl s)) (h : Q (some (.int (em_bb (hl 0) + em_bb (hl 1) + em_bb (hl 2)))) (em_SH, I, J, em_RT lw)) : em_call d 22 [.ref 47] (em_SH, I, J, em_RT lw) Q := by
  have hl' : ∀ {k m : Nat} {x : Int32}, k + m = 3 → (∀ y, y = x + (if k = 0 then em_bb (hl 0) + em_bb (hl 1) + em_bb (hl 2) else if k = 1 then em_bb (hl 1) + em_bb (hl 2) else if k = 2 then em_bb (hl 2) else 0) → Q (some (.int y)) (em_SH, I, J, em_RT lw)) → em_wp em_sc0 d 22 4 [some (.ref 47), some (.int (x)), some (.int (nI k))] [] (em_SH, I, J, em_RT lw) Q := fun {k m x} hk hq => by
    induction m generalizing k x with
    | zero =>
      have e : k = 3 := by omega
      subst e
      iterate 3 refine em_next rfl ?_
      refine em_c_ge (fun _ => ?_) (fun h1 => absurd (by decide) h1)
      iterate 1 refine em_next rfl ?_
      exact em_done rfl (hq x (Int32.add_zero x).symm)
    | succ m ih =>
      iterate 3 refine em_next rfl ?_
      refine em_c_ge (fun h1 => absurd h1 (nI_ge (b := 3) (by omega) (by decide))) (fun _ => ?_)
      iterate 4 refine em_next rfl ?_
      refine em_baln rfl rfl (by omega) (by decide) ?_
      have g := ih (k := k + 1) (x := x + em_bb (hl k)) (by omega) (fun y hy => hq y (by
        rw [hy]
        rcases (show k = 0 ∨ k = 1 ∨ k = 2 by omega) with rfl | rfl | rfl
        · rw [if_neg (by decide), if_pos rfl, if_pos rfl, Int32.add_assoc, Int32.add_assoc]
        · rw [if_neg (by decide), if_neg (by decide), if_pos rfl, if_neg (by decide), if_pos rfl, Int32.add_assoc]
        · rw [if_neg (by decide), if_neg (by decide), if_neg (by decide), if_neg (by decide), if_neg (by decide), if_pos rfl, Int32.add_zero]))
      rw [nI_succ] at g
      iterate 1 refine em_next rfl ?_
      refine em_z_eqE (hF k (by omega)) (fun q => ?_) (fun q => ?_)
      · have e : em_bb (hl k) = 0 := q
        rw [e] at g
        iterate 5 refine em_next rfl ?_
        exact g
      · have e : em_bb (hl k) = 1 := (em_bb01 (hl k)).resolve_left q
        rw [e] at g
        iterate 6 refine em_next rfl ?_
        exact g
  iterate 4 refine em_next rfl ?_
  exact hl' (k := 0) (m := 3) rfl (fun y hy => by rw [hy, if_pos rfl, show Int32.ofInt 0 = (0 : Int32) from rfl, Int32.zero_add]; exact h)
theorem cq_count (hS : cl_S I lp P X) {hl : Nat → Bool} (hH : ∀ s, s < 3 → I 50 s = em_bb (hl s)) {ex : Nat → Int32} (h7 : ex 7 = I 2 5) (h8 : ex 8 = I 47 4) (h9 : ex 9 = I 266 3) (h10 : ex 10 = em_bb (hl 0) + em_bb (hl 1) + em_bb (hl 2)) (h11 : ex 11 = I 42 6) (h14 : ex 14 = ey_sI (I 46) P.1) (h15 : ex 15 = I 42 5 - I 24 10) (h16 : ex 16 = ey_sI (I 44) P.1) {w : Int32} (h : ∀ I' : Nat → Nat → Int32, em_fW I I' → cl_S I' lp P X → Q (some (.int (sp_count P X ex w))) (em_SH, I', J, em_RT lw)) : em_call (d + 8) 161 [.ref 1, .int w] (em_SH, I, J, em_RT lw) Q := by
  have hn := hS.1.1.1
  have hr := hS.2.1.1.1
  have hp9 := em_pow9 hn
  have hN := hS.2.1
  unfold sp_count at h
  iterate 1 refine em_next rfl ?_
  by_cases g : em_ok 0 16 w
  · obtain ⟨t, ht, rfl, et⟩ := em_nat (m := 16) (by decide) g.1 g.2
    rw [if_pos g, et] at h
    have h1 := h I em_fW.rf hS
    match t, ht, h, h1 with
    | 0, _, h, h1 =>
      iterate 4 refine em_next rfl ?_
      exact em_doneE rfl hS.mn h1
    | 1, _, h, h1 =>
      iterate 4 refine em_next rfl ?_
      exact em_doneE rfl hN.1.2.2.2 h1
    | 2, _, h, h1 =>
      iterate 3 refine em_next rfl ?_
      refine em_inv_call rfl (ce_hourOfDay_now hN.1.2.2.2 hN.1.2.1 ?_)
      exact em_done rfl h1
    | 3, _, h, h1 =>
      iterate 4 refine em_next rfl ?_
      exact em_doneE rfl hS.rw h1
    | 4, _, h, h1 =>
      iterate 4 refine em_next rfl ?_
      refine em_inv_call rfl (ce_bits hS.rw (by omega) ?_)
      exact em_done rfl h1
    | 5, _, h, h1 =>
      iterate 5 refine em_next rfl ?_
      refine em_inv_call rfl (ce_shown_now hS.1 hN ?_)
      exact em_done rfl h1
    | 6, _, h, h1 =>
      iterate 7 refine em_next rfl ?_
      refine em_inv_call rfl (ce_Ra (mm := 1) hS hS.rw hr (by decide) (fun I1 a1 a2 => ?_))
      exact em_done rfl (h I1 a1.W a2)
    | 7, _, h, h1 =>
      iterate 4 refine em_next rfl ?_
      exact em_doneE rfl h7.symm h1
    | 8, _, h, h1 =>
      iterate 4 refine em_next rfl ?_
      exact em_doneE rfl h8.symm h1
    | 9, _, h, h1 =>
      iterate 4 refine em_next rfl ?_
      exact em_doneE rfl h9.symm h1
    | 10, _, h, h1 =>
      iterate 3 refine em_next rfl ?_
      refine em_inv_call rfl (ce_full hH ?_)
      exact em_doneE rfl h10.symm h1
    | 11, _, h, h1 =>
      iterate 4 refine em_next rfl ?_
      exact em_doneE rfl h11.symm h1
    | 12, _, h, h1 =>
      iterate 7 refine em_next rfl ?_
      refine em_inv_call rfl (ce_allLeft hS.1 ?_)
      iterate 6 refine em_next rfl ?_
      refine em_inv_call rfl (ce_cost_now hS.1 hN (em_notE hS.rw (by omega) hr) (by have := Nat.two_pow_pos P.1; omega) (fun I1 a1 => ?_))
      have esm : em_sm (fun b => if (2 ^ P.1 - 1 - X.1).testBit b then em_csN P X b else 0) P.1 = em_sm (fun b => if X.1.testBit b then 0 else em_csN P X b) P.1 := em_sm_congr (fun b hb => by
        rw [em_cplb hr, em_or_bit hb]
        cases X.1.testBit b <;> rfl)
      rw [esm]
      exact em_done rfl (h I1 a1.C.W (hS.kK a1))
    | 13, _, h, h1 =>
      iterate 5 refine em_next rfl ?_
      refine em_z_eqE hS.1.1.2.2 (fun q => ?_) (fun q => ?_)
      · have e : em_bb P.2.1 = 0 := q
        have h2 : Q (some (.int (em_bb P.2.1))) (em_SH, I, J, em_RT lw) := h1
        rw [e] at h2
        iterate 1 refine em_next rfl ?_
        exact em_done rfl h2
      · have e : em_bb P.2.1 = 1 := (em_bb01 _).resolve_left q
        have h2 : Q (some (.int (em_bb P.2.1))) (em_SH, I, J, em_RT lw) := h1
        rw [e] at h2
        iterate 2 refine em_next rfl ?_
        exact em_done rfl h2
    | 14, _, h, h1 =>
      iterate 7 refine em_next rfl ?_
      refine em_inv_call rfl (ce_sum_now_turnings hS.mn hn ?_)
      exact em_doneE rfl h14.symm h1
    | 15, _, h, h1 =>
      iterate 8 refine em_next rfl ?_
      exact em_doneE rfl h15.symm h1
    | 16, _, h, h1 =>
      iterate 7 refine em_next rfl ?_
      refine em_inv_call rfl (ce_sum_now_habits hS.mn hn ?_)
      exact em_doneE rfl h16.symm h1
    | t + 17, ht, _, _ => omega
  · rw [if_neg g] at h
    refine em_tsd rfl (em_out (m := 16) (by decide) g) ?_
    iterate 1 refine em_next rfl ?_
    exact em_done rfl (h I em_fW.rf hS)
/-- two places of a row changed -/
def em_swI (I : Nat → Nat → Int32) (a x y : Nat) : Nat → Nat → Int32 := fun c j => if c = a then ey_sw (I a) x y j else I c j
theorem em_swI_row {a x y c : Nat} (h : c ≠ a) : em_swI I a x y c = I c := by
  funext j
  exact if_neg h
theorem em_swI_at {a x y j : Nat} : em_swI I a x y a j = ey_sw (I a) x y j := if_pos rfl
theorem em_swI_u {a x y : Nat} : em_u (em_u I a x (I a y)) a y (I a x) = em_swI I a x y := by
  funext c j
  unfold em_u em_swI ey_sw
  by_cases hc : c = a
  · subst hc
    rw [if_pos rfl]
    by_cases h1 : j = x
    · subst h1
      rw [if_pos rfl]
      by_cases h2 : j = y
      · subst h2; rw [if_pos ⟨rfl, rfl⟩]
      · rw [if_neg (fun q => h2 q.2), if_pos ⟨rfl, rfl⟩]
    · rw [if_neg h1]
      by_cases h2 : j = y
      · subst h2; rw [if_pos ⟨rfl, rfl⟩, if_pos rfl]
      · rw [if_neg (fun q => h2 q.2), if_neg (fun q => h1 q.2), if_neg h2]
  · rw [if_neg hc, if_neg (fun q => hc q.1), if_neg (fun q => hc q.1)]
theorem ce_swapIn_now_names {x y : Nat} (hx : x < 9) (hy : y < 9) (h : Q none (em_SH, em_swI I 43 x y, J, em_RT lw)) : em_call d 29 [.ref 43, .int (nI x), .int (nI y)] (em_SH, I, J, em_RT lw) Q := by
  iterate 2 refine em_next rfl ?_
  refine em_ialn rfl rfl (by omega) (by decide) ?_
  iterate 5 refine em_next rfl ?_
  refine em_ialn rfl rfl (by omega) (by decide) ?_
  refine em_iasn rfl rfl (by omega) (by decide) ?_
  iterate 3 refine em_next rfl ?_
  refine em_iasn rfl rfl (by omega) (by decide) ?_
  refine em_done rfl ?_
  rw [em_swI_u]
  exact h
theorem ce_swapIn_now_habits {x y : Nat} (hx : x < 9) (hy : y < 9) (h : Q none (em_SH, em_swI I 44 x y, J, em_RT lw)) : em_call d 29 [.ref 44, .int (nI x), .int (nI y)] (em_SH, I, J, em_RT lw) Q := by
  iterate 2 refine em_next rfl ?_
  refine em_ialn rfl rfl (by omega) (by decide) ?_
  iterate 5 refine em_next rfl ?_
  refine em_ialn rfl rfl (by omega) (by decide) ?_
  refine em_iasn rfl rfl (by omega) (by decide) ?_
  iterate 3 refine em_next rfl ?_
  refine em_iasn rfl rfl (by omega) (by decide) ?_
  refine em_done rfl ?_
  rw [em_swI_u]
  exact h
theorem ce_swapIn_now_partings {x y : Nat} (hx : x < 9) (hy : y < 9) (h : Q none (em_SH, em_swI I 45 x y, J, em_RT lw)) : em_call d 29 [.ref 45, .int (nI x), .int (nI y)] (em_SH, I, J, em_RT lw) Q := by
  iterate 2 refine em_next rfl ?_
  refine em_ialn rfl rfl (by omega) (by decide) ?_
  iterate 5 refine em_next rfl ?_
  refine em_ialn rfl rfl (by omega) (by decide) ?_
  refine em_iasn rfl rfl (by omega) (by decide) ?_
  iterate 3 refine em_next rfl ?_
  refine em_iasn rfl rfl (by omega) (by decide) ?_
  refine em_done rfl ?_
  rw [em_swI_u]
  exact h
theorem ce_swapIn_now_turnings {x y : Nat} (hx : x < 9) (hy : y < 9) (h : Q none (em_SH, em_swI I 46 x y, J, em_RT lw)) : em_call d 29 [.ref 46, .int (nI x), .int (nI y)] (em_SH, I, J, em_RT lw) Q := by
  iterate 2 refine em_next rfl ?_
  refine em_ialn rfl rfl (by omega) (by decide) ?_
  iterate 5 refine em_next rfl ?_
  refine em_ialn rfl rfl (by omega) (by decide) ?_
  refine em_iasn rfl rfl (by omega) (by decide) ?_
  iterate 3 refine em_next rfl ?_
  refine em_iasn rfl rfl (by omega) (by decide) ?_
  refine em_done rfl ?_
  rw [em_swI_u]
  exact h
theorem ce_swapIn_dnight_names {x y : Nat} (hx : x < 9) (hy : y < 9) (h : Q none (em_SH, em_swI I 272 x y, J, em_RT lw)) : em_call d 29 [.ref 272, .int (nI x), .int (nI y)] (em_SH, I, J, em_RT lw) Q := by
  iterate 2 refine em_next rfl ?_
  refine em_ialn rfl rfl (by omega) (by decide) ?_
  iterate 5 refine em_next rfl ?_
  refine em_ialn rfl rfl (by omega) (by decide) ?_
  refine em_iasn rfl rfl (by omega) (by decide) ?_
  iterate 3 refine em_next rfl ?_
  refine em_iasn rfl rfl (by omega) (by decide) ?_
  refine em_done rfl ?_
  rw [em_swI_u]
  exact h
theorem ce_swapIn_dnight_habits {x y : Nat} (hx : x < 9) (hy : y < 9) (h : Q none (em_SH, em_swI I 273 x y, J, em_RT lw)) : em_call d 29 [.ref 273, .int (nI x), .int (nI y)] (em_SH, I, J, em_RT lw) Q := by
  iterate 2 refine em_next rfl ?_
  refine em_ialn rfl rfl (by omega) (by decide) ?_
  iterate 5 refine em_next rfl ?_
  refine em_ialn rfl rfl (by omega) (by decide) ?_
  refine em_iasn rfl rfl (by omega) (by decide) ?_
  iterate 3 refine em_next rfl ?_
  refine em_iasn rfl rfl (by omega) (by decide) ?_
  refine em_done rfl ?_
  rw [em_swI_u]
  exact h
theorem ce_swapIn_dnight_partings {x y : Nat} (hx : x < 9) (hy : y < 9) (h : Q none (em_SH, em_swI I 274 x y, J, em_RT lw)) : em_call d 29 [.ref 274, .int (nI x), .int (nI y)] (em_SH, I, J, em_RT lw) Q := by
  iterate 2 refine em_next rfl ?_
  refine em_ialn rfl rfl (by omega) (by decide) ?_
  iterate 5 refine em_next rfl ?_
  refine em_ialn rfl rfl (by omega) (by decide) ?_
  refine em_iasn rfl rfl (by omega) (by decide) ?_
  iterate 3 refine em_next rfl ?_
  refine em_iasn rfl rfl (by omega) (by decide) ?_
  refine em_done rfl ?_
  rw [em_swI_u]
  exact h
theorem ce_swapIn_dnight_turnings {x y : Nat} (hx : x < 9) (hy : y < 9) (h : Q none (em_SH, em_swI I 275 x y, J, em_RT lw)) : em_call d 29 [.ref 275, .int (nI x), .int (nI y)] (em_SH, I, J, em_RT lw) Q := by
  iterate 2 refine em_next rfl ?_
  refine em_ialn rfl rfl (by omega) (by decide) ?_
  iterate 5 refine em_next rfl ?_
  refine em_ialn rfl rfl (by omega) (by decide) ?_
  refine em_iasn rfl rfl (by omega) (by decide) ?_
  iterate 3 refine em_next rfl ?_
  refine em_iasn rfl rfl (by omega) (by decide) ?_
  refine em_done rfl ?_
  rw [em_swI_u]
  exact h
theorem em_swr_eq {r a b : Nat} (hr : r < 2 ^ 9) (ha : a < 9) (hb : b < 9) : em_swr r a b = if r.testBit a = r.testBit b then r else r ^^^ (2 ^ a ||| 2 ^ b) := by
  unfold em_swr
  have h2 : ∀ k, k < 9 → 2 ^ k < 2 ^ 9 := fun k hk => Nat.pow_lt_pow_right (by decide) hk
  have tb : ∀ k j : Nat, (2 ^ k).testBit j = decide (k = j) := fun k j => Nat.testBit_two_pow
  split
  · rename_i e
    refine (em_or_ext hr (fun j hj => ?_)).symm
    unfold ey_sw
    split
    · rename_i q; subst q; exact e
    · split
      · rename_i q; subst q; exact e.symm
      · rfl
  · rename_i e
    refine (em_or_ext (Nat.xor_lt_two_pow hr (Nat.or_lt_two_pow (h2 a ha) (h2 b hb))) (fun j hj => ?_)).symm
    rw [Nat.testBit_xor, Nat.testBit_or, tb, tb]
    unfold ey_sw
    split
    · rename_i q; subst q
      rw [decide_eq_true rfl]
      dsimp only
      revert e
      cases r.testBit j <;> cases r.testBit b <;> simp
    · rename_i q1
      split
      · rename_i q; subst q
        rw [decide_eq_true rfl]
        dsimp only
        revert e
        cases r.testBit a <;> cases r.testBit j <;> simp
      · rename_i q2
        rw [decide_eq_false (fun z => q1 z.symm), decide_eq_false (fun z => q2 z.symm)]
        simp
theorem em_orb {a b : Nat} (ha : a < 10) (hb : b < 10) : (1 <<< (nI a &&& 31) : Int32) ||| (1 <<< (nI b &&& 31)) = nI (2 ^ a ||| 2 ^ b) := by rw [em_one1 a ha, em_one1 b hb, em_or2]
theorem ce_swap_now {r x y : Nat} (hR : I 42 4 = nI r) (hr : r < 512) (hx : x < 9) (hy : y < 9) (h : ∀ I' : Nat → Nat → Int32, (∀ a, a ∉ [42, 43, 44, 45, 46] → I' a = I a) → (∀ j, I' 43 j = ey_sw (I 43) x y j ∧ I' 44 j = ey_sw (I 44) x y j ∧ I' 45 j = ey_sw (I 45) x y j ∧ I' 46 j = ey_sw (I 46) x y j) → I' 42 4 = nI (em_swr r x y) → I' 42 5 = I 42 5 → I' 42 6 = I 42 6 → Q none (em_SH, I', J, em_RT lw)) : em_call (d + 1) 28 [.ref 42, .int (nI x), .int (nI y)] (em_SH, I, J, em_RT lw) Q := by
  iterate 4 refine em_next rfl ?_
  refine em_inv_call rfl (ce_swapIn_now_names hx hy ?_)
  iterate 4 refine em_next rfl ?_
  refine em_inv_call rfl (ce_swapIn_now_habits hx hy ?_)
  iterate 4 refine em_next rfl ?_
  refine em_inv_call rfl (ce_swapIn_now_partings hx hy ?_)
  iterate 4 refine em_next rfl ?_
  refine em_inv_call rfl (ce_swapIn_now_turnings hx hy ?_)
  have hw : ∀ a, a ∉ [43, 44, 45, 46] → em_swI (em_swI (em_swI (em_swI I 43 x y) 44 x y) 45 x y) 46 x y a = I a := fun a ha => by
    rw [em_swI_row (fun q => ha (by rw [q]; decide)), em_swI_row (fun q => ha (by rw [q]; decide)), em_swI_row (fun q => ha (by rw [q]; decide)), em_swI_row (fun q => ha (by rw [q]; decide))]
  have hv : ∀ j, em_swI (em_swI (em_swI (em_swI I 43 x y) 44 x y) 45 x y) 46 x y 43 j = ey_sw (I 43) x y j ∧ em_swI (em_swI (em_swI (em_swI I 43 x y) 44 x y) 45 x y) 46 x y 44 j = ey_sw (I 44) x y j ∧ em_swI (em_swI (em_swI (em_swI I 43 x y) 44 x y) 45 x y) 46 x y 45 j = ey_sw (I 45) x y j ∧ em_swI (em_swI (em_swI (em_swI I 43 x y) 44 x y) 45 x y) 46 x y 46 j = ey_sw (I 46) x y j := fun j => by
    refine ⟨?_, ?_, ?_, ?_⟩
    · rw [em_swI_row (by decide), em_swI_row (by decide), em_swI_row (by decide), em_swI_at]
    · rw [em_swI_row (by decide), em_swI_row (by decide), em_swI_at, em_swI_row (by decide)]
    · rw [em_swI_row (by decide), em_swI_at, em_swI_row (by decide), em_swI_row (by decide)]
    · rw [em_swI_at, em_swI_row (by decide), em_swI_row (by decide), em_swI_row (by decide)]
  generalize em_swI (em_swI (em_swI (em_swI I 43 x y) 44 x y) 45 x y) 46 x y = I1 at hw hv ⊢
  have hR1 : I1 42 4 = nI r := by rw [hw _ (by decide)]; exact hR
  have esw := em_swr_eq (r := r) (a := x) (b := y) hr hx hy
  have ex : (I1 42 4 >>> (nI x &&& 31)) &&& 1 = em_bit r x := by rw [hR1]; exact em_bitC r hr x hx
  have ey : (I1 42 4 >>> (nI y &&& 31)) &&& 1 = em_bit r y := by rw [hR1]; exact em_bitC r hr y hy
  iterate 13 refine em_next rfl ?_
  refine em_c_eqE ex ey (fun q => ?_) (fun q => ?_)
  · rw [if_pos (em_bit_eq.mp q)] at esw
    refine em_done rfl (h I1 (fun a ha => hw a (fun z => ha (List.mem_cons_of_mem _ z))) hv (by rw [esw]; exact hR1) (by rw [hw _ (by decide)]) (by rw [hw _ (by decide)]))
  · rw [if_neg (fun z => q (em_bit_eq.mpr z))] at esw
    iterate 12 refine em_next rfl ?_
    refine em_done rfl ?_
    show Q none (em_SH, em_u I1 42 4 (I1 42 4 ^^^ ((1 <<< (nI x &&& 31) : Int32) ||| (1 <<< (nI y &&& 31)))), J, em_RT lw)
    refine h _ (fun a ha => ?_) (fun j => ?_) ?_ ?_ ?_
    · rw [em_u_row (fun z => ha (by rw [z]; decide))]
      exact hw a (fun z => ha (List.mem_cons_of_mem _ z))
    · rw [em_u_row (by decide), em_u_row (by decide), em_u_row (by decide), em_u_row (by decide)]
      exact hv j
    · rw [em_u_self, hR1, em_orb (by omega) (by omega), em_xr, esw]
    · rw [em_u_ne (by decide), hw _ (by decide)]
    · rw [em_u_ne (by decide), hw _ (by decide)]
theorem ce_swap_dnight {r x y : Nat} (hR : I 271 4 = nI r) (hr : r < 512) (hx : x < 9) (hy : y < 9) (h : ∀ I' : Nat → Nat → Int32, (∀ a, a ∉ [271, 272, 273, 274, 275] → I' a = I a) → (∀ j, I' 272 j = ey_sw (I 272) x y j ∧ I' 273 j = ey_sw (I 273) x y j ∧ I' 274 j = ey_sw (I 274) x y j ∧ I' 275 j = ey_sw (I 275) x y j) → I' 271 4 = nI (em_swr r x y) → I' 271 5 = I 271 5 → I' 271 6 = I 271 6 → Q none (em_SH, I', J, em_RT lw)) : em_call (d + 1) 28 [.ref 271, .int (nI x), .int (nI y)] (em_SH, I, J, em_RT lw) Q := by
  iterate 4 refine em_next rfl ?_
  refine em_inv_call rfl (ce_swapIn_dnight_names hx hy ?_)
  iterate 4 refine em_next rfl ?_
  refine em_inv_call rfl (ce_swapIn_dnight_habits hx hy ?_)
  iterate 4 refine em_next rfl ?_
  refine em_inv_call rfl (ce_swapIn_dnight_partings hx hy ?_)
  iterate 4 refine em_next rfl ?_
  refine em_inv_call rfl (ce_swapIn_dnight_turnings hx hy ?_)
  have hw : ∀ a, a ∉ [272, 273, 274, 275] → em_swI (em_swI (em_swI (em_swI I 272 x y) 273 x y) 274 x y) 275 x y a = I a := fun a ha => by
    rw [em_swI_row (fun q => ha (by rw [q]; decide)), em_swI_row (fun q => ha (by rw [q]; decide)), em_swI_row (fun q => ha (by rw [q]; decide)), em_swI_row (fun q => ha (by rw [q]; decide))]
  have hv : ∀ j, em_swI (em_swI (em_swI (em_swI I 272 x y) 273 x y) 274 x y) 275 x y 272 j = ey_sw (I 272) x y j ∧ em_swI (em_swI (em_swI (em_swI I 272 x y) 273 x y) 274 x y) 275 x y 273 j = ey_sw (I 273) x y j ∧ em_swI (em_swI (em_swI (em_swI I 272 x y) 273 x y) 274 x y) 275 x y 274 j = ey_sw (I 274) x y j ∧ em_swI (em_swI (em_swI (em_swI I 272 x y) 273 x y) 274 x y) 275 x y 275 j = ey_sw (I 275) x y j := fun j => by
    refine ⟨?_, ?_, ?_, ?_⟩
    · rw [em_swI_row (by decide), em_swI_row (by decide), em_swI_row (by decide), em_swI_at]
    · rw [em_swI_row (by decide), em_swI_row (by decide), em_swI_at, em_swI_row (by decide)]
    · rw [em_swI_row (by decide), em_swI_at, em_swI_row (by decide), em_swI_row (by decide)]
    · rw [em_swI_at, em_swI_row (by decide), em_swI_row (by decide), em_swI_row (by decide)]
  generalize em_swI (em_swI (em_swI (em_swI I 272 x y) 273 x y) 274 x y) 275 x y = I1 at hw hv ⊢
  have hR1 : I1 271 4 = nI r := by rw [hw _ (by decide)]; exact hR
  have esw := em_swr_eq (r := r) (a := x) (b := y) hr hx hy
  have ex : (I1 271 4 >>> (nI x &&& 31)) &&& 1 = em_bit r x := by rw [hR1]; exact em_bitC r hr x hx
  have ey : (I1 271 4 >>> (nI y &&& 31)) &&& 1 = em_bit r y := by rw [hR1]; exact em_bitC r hr y hy
  iterate 13 refine em_next rfl ?_
  refine em_c_eqE ex ey (fun q => ?_) (fun q => ?_)
  · rw [if_pos (em_bit_eq.mp q)] at esw
    refine em_done rfl (h I1 (fun a ha => hw a (fun z => ha (List.mem_cons_of_mem _ z))) hv (by rw [esw]; exact hR1) (by rw [hw _ (by decide)]) (by rw [hw _ (by decide)]))
  · rw [if_neg (fun z => q (em_bit_eq.mpr z))] at esw
    iterate 12 refine em_next rfl ?_
    refine em_done rfl ?_
    show Q none (em_SH, em_u I1 271 4 (I1 271 4 ^^^ ((1 <<< (nI x &&& 31) : Int32) ||| (1 <<< (nI y &&& 31)))), J, em_RT lw)
    refine h _ (fun a ha => ?_) (fun j => ?_) ?_ ?_ ?_
    · rw [em_u_row (fun z => ha (by rw [z]; decide))]
      exact hw a (fun z => ha (List.mem_cons_of_mem _ z))
    · rw [em_u_row (by decide), em_u_row (by decide), em_u_row (by decide), em_u_row (by decide)]
      exact hv j
    · rw [em_u_self, hR1, em_orb (by omega) (by omega), em_xr, esw]
    · rw [em_u_ne (by decide), hw _ (by decide)]
    · rw [em_u_ne (by decide), hw _ (by decide)]
end CQ11

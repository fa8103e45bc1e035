/-! the class: its questions, four: nights gone on -/
abbrev cd_T (I : Nat → Nat → Int32) (P : em_Pl) (Y : em_Nt) : Prop := ct_N I 271 P.1 Y.1 Y.2.1 P.2.2.2.2 Y.2.2
theorem em_sm_congr {f g : Nat → Nat} {n : Nat} (h : ∀ b, b < n → f b = g b) : em_sm f n = em_sm g n := by
  induction n with
  | zero => rfl
  | succ n ih => rw [em_sm, em_sm, ih (fun b hb => h b (by omega)), h n (by omega)]
theorem em_bit1 (r b : Nat) : em_bit r b = 1 ↔ r.testBit b = true := by
  unfold em_bit
  split
  · rename_i q; exact ⟨fun _ => q, fun _ => rfl⟩
  · rename_i q; exact ⟨fun e => absurd e (by decide), fun e => absurd e q⟩
theorem em_cplb {n s : Nat} (hs : s < 2 ^ n) : 2 ^ n - 1 - s = em_or n (fun b => !s.testBit b) := by
  have := ey_cpl (n := n) (q := fun b => s.testBit b)
  rw [em_or_self hs] at this
  exact this
section CQ5
variable {d lw : Nat} {P : em_Pl} {X Y : em_Nt} {lp : Bool} {part : Nat → Int32} {I I0 : Nat → Nat → Int32} {J : Nat → Nat → Int64} {M : em_M} {Q : Option Value → em_M → Prop} {v : List Int32} {sd : Int32}
theorem ce_lieE (hS : cl_S I lp P X) {a : Int32} {s : Nat} (ea : a = nI s) (hs : s < 2 ^ P.1) (h : ∀ I' : Nat → Nat → Int32, em_fC I I' → cl_S I' lp P X → cd_N I' lp P (s, X.2.1, X.2.2) → cd_T I' P (s, X.2.1, X.2.2) → I' 271 6 = I 42 6 → Q none (em_SH, I', J, em_RT lw)) : em_call (d + 1) 2 [.ref 270, .int a] (em_SH, I, J, em_RT lw) Q := by
  subst ea
  exact ce_lieAs hS hs h
theorem cl_S.kR (hS : cl_S I lp P X) {I' : Nat → Nat → Int32} (he : em_fC I I') (hr : I' 276 = I 276) : cl_S I' lp P X := hS.keep he (fun t ht b hb => by rw [hr]; exact hS.2.2.2.1 t ht b hb)
theorem ce_dh (hS : cl_S I lp P X) (hY : cd_T I P Y) (hb : Y.2.1 + 1 < 1000000) (h : ∀ I' : Nat → Nat → Int32, em_fC I I' → cl_S I' lp P X → cd_T I' P (em_step P true 0 Y) → Q none (em_SH, I', J, em_RT lw)) : em_call (d + 2) 48 [.ref 24, .ref 271] (em_SH, I, J, em_RT lw) Q := by
  refine ce_passHour_dnight (n := P.1) (rg := P.2.1) (cold := P.2.2.1) (f := P.2.2.2.1) (hab := P.2.2.2.2) (r := Y.1) (hh := Y.2.1) (part := Y.2.2) hS.1 hY hb (fun I1 a1 a2 a3 a4 => ?_)
  have fC : em_fC I I1 := fun a ha => a1 a (fun q => ha (by revert q; simp [em_cS]; rintro (rfl | rfl | rfl | rfl | rfl) <;> simp))
  exact h I1 fC (hS.kR fC (a1 _ (by decide))) a2
theorem ce_dc (hS : cl_S I lp P X) (hY : cd_T I P Y) (hb : Y.2.1 + 1 < 1000000) {s' : Int32} (es : s' = sd) (h : ∀ I' : Nat → Nat → Int32, em_fC I I' → cl_S I' lp P X → cd_T I' P (em_step P false sd Y) → Q none (em_SH, I', J, em_RT lw)) : em_call (d + 3) 49 [.ref 24, .ref 271, .int s'] (em_SH, I, J, em_RT lw) Q := by
  refine ce_passCold_dnight hS.1 hY hb es (fun I1 a1 a2 a3 a4 => ?_)
  have fC : em_fC I I1 := fun a ha => a1 a (fun q => ha (by revert q; simp [em_cS]; rintro (rfl | rfl | rfl | rfl | rfl | rfl | rfl) <;> simp))
  exact h I1 fC (hS.kR fC (a1 _ (by decide))) a2
theorem em_fK.C {I' : Nat → Nat → Int32} (h : em_fK I I') : em_fC I I' := fun a ha => h a (fun q => ha (by revert q; simp [em_cS]; rintro (rfl | rfl | rfl | rfl | rfl) <;> simp))
theorem cl_S.kK (hS : cl_S I lp P X) {I' : Nat → Nat → Int32} (he : em_fK I I') : cl_S I' lp P X := hS.kR he.C (he _ (by decide))
theorem ct_N.kK {I' : Nat → Nat → Int32} (hY : cd_T I P Y) (he : em_fK I I') : cd_T I' P Y := ct_N.keep hY (he _ (by decide)) (he _ (by decide)) (he _ (by decide))
theorem ce_chills_l (hS : cl_S I lp P X) (hY : cd_T I P Y) {k m : Nat} (hk : k + m = P.1) (h : ∀ I' : Nat → Nat → Int32, em_fK I I' → Q (some (.int (nI (em_sm (em_chN P Y) P.1)))) (em_SH, I', J, em_RT lw)) : em_wp em_sc0 (d + 2) 52 4 [some (.ref 24), some (.ref 271), some (.int (nI (em_sm (em_chN P Y) k))), some (.int (nI k))] [] (em_SH, I, J, em_RT lw) Q := by
  have hn := hS.1.1.1
  induction m generalizing k I with
  | zero =>
    have e : k = P.1 := by omega
    subst e
    iterate 4 refine em_next rfl ?_
    refine em_c_geE rfl hS.mn (fun _ => ?_) (fun h1 => absurd (nI_le (Nat.le_refl _) (by omega)) h1)
    iterate 1 refine em_next rfl ?_
    exact em_done rfl (h I em_fK.rf)
  | succ m ih =>
    iterate 4 refine em_next rfl ?_
    refine em_c_geE rfl hS.mn (fun h1 => absurd h1 (nI_ge (by omega) (by omega))) (fun _ => ?_)
    iterate 3 refine em_next rfl ?_
    refine em_inv_call rfl (ce_face_dnight (hab := P.2.2.2.2) (part := Y.2.2) hS.1 hY.1.2.2.1 hY.1.1 hY.1.2.2.2 hY.1.2.1 (by omega) (hY.2 k (by omega)).1 (hY.2 k (by omega)).2 (fun I1 a1 a2 => ?_))
    have f1 : em_fK I I1 := fun a ha => a1 a (fun q => ha (by rw [q]; decide))
    iterate 2 refine em_next rfl ?_
    refine em_inv_call rfl (ce_chillChance (hS.kK f1).1 a2 (fun I2 b1 => ?_))
    have f2 : em_fK I I2 := f1.tr (fun a ha => b1 a (fun q => ha (by rw [q]; decide)))
    have g := ih (k := k + 1) (I := I2) (hS.kK f2) (hY.kK f2) (by omega) (fun I' f => h I' (f2.tr f))
    rw [em_sm, em_nadd, (em_chN_ok P Y k).1, nI_succ] at g
    iterate 4 refine em_next rfl ?_
    exact g
theorem ce_chills (hS : cl_S I lp P X) (hY : cd_T I P Y) (h : ∀ I' : Nat → Nat → Int32, em_fK I I' → Q (some (.int (nI (em_sm (em_chN P Y) P.1)))) (em_SH, I', J, em_RT lw)) : em_call (d + 2) 52 [.ref 24, .ref 271] (em_SH, I, J, em_RT lw) Q := by
  iterate 4 refine em_next rfl ?_
  exact ce_chills_l (k := 0) (m := P.1) hS hY (by omega) h
theorem ce_shown_l_now (hP : cp_P I P.1 P.2.1 P.2.2.1 P.2.2.2.1) (hY : ct_N I 42 P.1 Y.1 Y.2.1 P.2.2.2.2 Y.2.2) {k m : Nat} (hk : k + m = P.1) (h : Q (some (.int (nI (em_sh P Y)))) (em_SH, I, J, em_RT lw)) : em_wp em_sc0 d 54 4 [some (.ref 24), some (.ref 42), some (.int (nI (em_or k (fun b => decide (0 < Y.2.2 b))))), some (.int (nI k))] [] (em_SH, I, J, em_RT lw) Q := by
  have hn := hP.1.1
  induction m generalizing k with
  | zero =>
    have e : k = P.1 := by omega
    subst e
    iterate 4 refine em_next rfl ?_
    refine em_c_geE rfl hP.1.2.1 (fun _ => ?_) (fun h1 => absurd (nI_le (Nat.le_refl _) (by omega)) h1)
    iterate 1 refine em_next rfl ?_
    exact em_done rfl h
  | succ m ih =>
    have g := ih (k := k + 1) (by omega)
    have eo : em_or (k + 1) (fun b => decide (0 < Y.2.2 b)) = em_or k (fun b => decide (0 < Y.2.2 b)) + (if decide (0 < Y.2.2 k) then 2 ^ k else 0) := rfl
    iterate 4 refine em_next rfl ?_
    refine em_c_geE rfl hP.1.2.1 (fun h1 => absurd h1 (nI_ge (by omega) (by omega))) (fun _ => ?_)
    iterate 4 refine em_next rfl ?_
    refine em_ialn rfl rfl (by omega) (by decide) ?_
    iterate 1 refine em_next rfl ?_
    refine em_z_leE (hY.2 k (by omega)).2 (fun q => ?_) (fun q => ?_)
    · rw [eo, decide_eq_false (Int32.not_lt.mpr q), if_neg (by decide), Nat.add_zero, nI_succ] at g
      iterate 2 refine em_next rfl ?_
      refine em_tp (y := nI (em_or k (fun b => decide (0 < Y.2.2 b)))) Int32.or_zero ?_
      iterate 3 refine em_next rfl ?_
      exact g
    · rw [eo, decide_eq_true (Int32.not_le.mp q), if_pos rfl, nI_succ] at g
      iterate 5 refine em_next rfl ?_
      refine em_tp (em_join1 k (by omega) _ (em_or_lt _ _)).1 ?_
      iterate 3 refine em_next rfl ?_
      exact g
theorem ce_shown_now (hP : cp_P I P.1 P.2.1 P.2.2.1 P.2.2.2.1) (hY : ct_N I 42 P.1 Y.1 Y.2.1 P.2.2.2.2 Y.2.2) (h : Q (some (.int (nI (em_sh P Y)))) (em_SH, I, J, em_RT lw)) : em_call d 54 [.ref 24, .ref 42] (em_SH, I, J, em_RT lw) Q := by
  iterate 4 refine em_next rfl ?_
  exact ce_shown_l_now (k := 0) (m := P.1) hP hY (by omega) h
theorem ce_cost_l_now (hP : cp_P I P.1 P.2.1 P.2.2.1 P.2.2.2.1) (hY : ct_N I 42 P.1 Y.1 Y.2.1 P.2.2.2.2 Y.2.2) {a : Int32} {s k m : Nat} (ea : a = nI s) (hs : s < 2 ^ P.1) (hk : k + m = P.1) (h : ∀ I' : Nat → Nat → Int32, em_fK I I' → Q (some (.int (nI (em_sm (fun b => if s.testBit b then em_csN P Y b else 0) P.1)))) (em_SH, I', J, em_RT lw)) : em_wp em_sc0 (d + 2) 53 5 [some (.ref 24), some (.ref 42), some (.int (a)), some (.int (nI (em_sm (fun b => if s.testBit b then em_csN P Y b else 0) k))), some (.int (nI k))] [] (em_SH, I, J, em_RT lw) Q := by
  have hn := hP.1.1
  have hp9 := em_pow9 hn
  induction m generalizing k I with
  | zero =>
    have e : k = P.1 := by omega
    subst e
    iterate 4 refine em_next rfl ?_
    refine em_c_geE rfl hP.1.2.1 (fun _ => ?_) (fun h1 => absurd (nI_le (Nat.le_refl _) (by omega)) h1)
    iterate 1 refine em_next rfl ?_
    exact em_done rfl (h I em_fK.rf)
  | succ m ih =>
    iterate 4 refine em_next rfl ?_
    refine em_c_geE rfl hP.1.2.1 (fun h1 => absurd h1 (nI_ge (by omega) (by omega))) (fun _ => ?_)
    iterate 7 refine em_next rfl ?_
    have eb : (a >>> (nI k &&& 31)) &&& 1 = em_bit s k := by rw [ea]; exact em_bitC s (by omega) k (by omega)
    refine em_c_neE eb (y' := 1) rfl (fun q => ?_) (fun q => ?_)
    · have q2 : ¬ s.testBit k = true := fun z => q ((em_bit1 s k).mpr z)
      have g := ih (k := k + 1) (I := I) hP hY (by omega) h
      rw [em_sm, if_neg q2, Nat.add_zero, nI_succ] at g
      iterate 2 refine em_next rfl ?_
      exact g
    · have q2 := (em_bit1 s k).mp q
      iterate 3 refine em_next rfl ?_
      refine em_inv_call rfl (ce_face_now (hab := P.2.2.2.2) (part := Y.2.2) hP hY.1.2.2.1 hY.1.1 hY.1.2.2.2 hY.1.2.1 (by omega) (hY.2 k (by omega)).1 (hY.2 k (by omega)).2 (fun I1 a1 a2 => ?_))
      have f1 : em_fK I I1 := fun a ha => a1 a (fun q => ha (by rw [q]; decide))
      iterate 2 refine em_next rfl ?_
      refine em_inv_call rfl (ce_turningCost (hP.keep f1.P) a2 (fun I2 b1 => ?_))
      have f2 : em_fK I I2 := f1.tr (fun a ha => b1 a (fun q => ha (by rw [q]; decide)))
      have g := ih (k := k + 1) (I := I2) (hP.keep f2.P) (hY.keep (f2 _ (by decide)) (f2 _ (by decide)) (f2 _ (by decide))) (by omega) (fun I' f => h I' (f2.tr f))
      rw [em_sm, if_pos q2, em_nadd, (em_csN_ok P Y k).1, nI_succ] at g
      iterate 4 refine em_next rfl ?_
      exact g
theorem ce_cost_now (hP : cp_P I P.1 P.2.1 P.2.2.1 P.2.2.2.1) (hY : ct_N I 42 P.1 Y.1 Y.2.1 P.2.2.2.2 Y.2.2) {a : Int32} {s : Nat} (ea : a = nI s) (hs : s < 2 ^ P.1) (h : ∀ I' : Nat → Nat → Int32, em_fK I I' → Q (some (.int (nI (em_sm (fun b => if s.testBit b then em_csN P Y b else 0) P.1)))) (em_SH, I', J, em_RT lw)) : em_call (d + 2) 53 [.ref 24, .ref 42, .int a] (em_SH, I, J, em_RT lw) Q := by
  iterate 4 refine em_next rfl ?_
  exact ce_cost_l_now (k := 0) (m := P.1) hP hY ea hs (by omega) h
theorem ce_shown_l_dnight (hP : cp_P I P.1 P.2.1 P.2.2.1 P.2.2.2.1) (hY : ct_N I 271 P.1 Y.1 Y.2.1 P.2.2.2.2 Y.2.2) {k m : Nat} (hk : k + m = P.1) (h : Q (some (.int (nI (em_sh P Y)))) (em_SH, I, J, em_RT lw)) : em_wp em_sc0 d 54 4 [some (.ref 24), some (.ref 271), some (.int (nI (em_or k (fun b => decide (0 < Y.2.2 b))))), some (.int (nI k))] [] (em_SH, I, J, em_RT lw) Q := by
  have hn := hP.1.1
  induction m generalizing k with
  | zero =>
    have e : k = P.1 := by omega
    subst e
    iterate 4 refine em_next rfl ?_
    refine em_c_geE rfl hP.1.2.1 (fun _ => ?_) (fun h1 => absurd (nI_le (Nat.le_refl _) (by omega)) h1)
    iterate 1 refine em_next rfl ?_
    exact em_done rfl h
  | succ m ih =>
    have g := ih (k := k + 1) (by omega)
    have eo : em_or (k + 1) (fun b => decide (0 < Y.2.2 b)) = em_or k (fun b => decide (0 < Y.2.2 b)) + (if decide (0 < Y.2.2 k) then 2 ^ k else 0) := rfl
    iterate 4 refine em_next rfl ?_
    refine em_c_geE rfl hP.1.2.1 (fun h1 => absurd h1 (nI_ge (by omega) (by omega))) (fun _ => ?_)
    iterate 4 refine em_next rfl ?_
    refine em_ialn rfl rfl (by omega) (by decide) ?_
    iterate 1 refine em_next rfl ?_
    refine em_z_leE (hY.2 k (by omega)).2 (fun q => ?_) (fun q => ?_)
    · rw [eo, decide_eq_false (Int32.not_lt.mpr q), if_neg (by decide), Nat.add_zero, nI_succ] at g
      iterate 2 refine em_next rfl ?_
      refine em_tp (y := nI (em_or k (fun b => decide (0 < Y.2.2 b)))) Int32.or_zero ?_
      iterate 3 refine em_next rfl ?_
      exact g
    · rw [eo, decide_eq_true (Int32.not_le.mp q), if_pos rfl, nI_succ] at g
      iterate 5 refine em_next rfl ?_
      refine em_tp (em_join1 k (by omega) _ (em_or_lt _ _)).1 ?_
      iterate 3 refine em_next rfl ?_
      exact g
theorem ce_shown_dnight (hP : cp_P I P.1 P.2.1 P.2.2.1 P.2.2.2.1) (hY : ct_N I 271 P.1 Y.1 Y.2.1 P.2.2.2.2 Y.2.2) (h : Q (some (.int (nI (em_sh P Y)))) (em_SH, I, J, em_RT lw)) : em_call d 54 [.ref 24, .ref 271] (em_SH, I, J, em_RT lw) Q := by
  iterate 4 refine em_next rfl ?_
  exact ce_shown_l_dnight (k := 0) (m := P.1) hP hY (by omega) h
theorem ce_cost_l_dnight (hP : cp_P I P.1 P.2.1 P.2.2.1 P.2.2.2.1) (hY : ct_N I 271 P.1 Y.1 Y.2.1 P.2.2.2.2 Y.2.2) {a : Int32} {s k m : Nat} (ea : a = nI s) (hs : s < 2 ^ P.1) (hk : k + m = P.1) (h : ∀ I' : Nat → Nat → Int32, em_fK I I' → Q (some (.int (nI (em_sm (fun b => if s.testBit b then em_csN P Y b else 0) P.1)))) (em_SH, I', J, em_RT lw)) : em_wp em_sc0 (d + 2) 53 5 [some (.ref 24), some (.ref 271), some (.int (a)), some (.int (nI (em_sm (fun b => if s.testBit b then em_csN P Y b else 0) k))), some (.int (nI k))] [] (em_SH, I, J, em_RT lw) Q := by
  have hn := hP.1.1
  have hp9 := em_pow9 hn
  induction m generalizing k I with
  | zero =>
    have e : k = P.1 := by omega
    subst e
    iterate 4 refine em_next rfl ?_
    refine em_c_geE rfl hP.1.2.1 (fun _ => ?_) (fun h1 => absurd (nI_le (Nat.le_refl _) (by omega)) h1)
    iterate 1 refine em_next rfl ?_
    exact em_done rfl (h I em_fK.rf)
  | succ m ih =>
    iterate 4 refine em_next rfl ?_
    refine em_c_geE rfl hP.1.2.1 (fun h1 => absurd h1 (nI_ge (by omega) (by omega))) (fun _ => ?_)
    iterate 7 refine em_next rfl ?_
    have eb : (a >>> (nI k &&& 31)) &&& 1 = em_bit s k := by rw [ea]; exact em_bitC s (by omega) k (by omega)
    refine em_c_neE eb (y' := 1) rfl (fun q => ?_) (fun q => ?_)
    · have q2 : ¬ s.testBit k = true := fun z => q ((em_bit1 s k).mpr z)
      have g := ih (k := k + 1) (I := I) hP hY (by omega) h
      rw [em_sm, if_neg q2, Nat.add_zero, nI_succ] at g
      iterate 2 refine em_next rfl ?_
      exact g
    · have q2 := (em_bit1 s k).mp q
      iterate 3 refine em_next rfl ?_
      refine em_inv_call rfl (ce_face_dnight (hab := P.2.2.2.2) (part := Y.2.2) hP hY.1.2.2.1 hY.1.1 hY.1.2.2.2 hY.1.2.1 (by omega) (hY.2 k (by omega)).1 (hY.2 k (by omega)).2 (fun I1 a1 a2 => ?_))
      have f1 : em_fK I I1 := fun a ha => a1 a (fun q => ha (by rw [q]; decide))
      iterate 2 refine em_next rfl ?_
      refine em_inv_call rfl (ce_turningCost (hP.keep f1.P) a2 (fun I2 b1 => ?_))
      have f2 : em_fK I I2 := f1.tr (fun a ha => b1 a (fun q => ha (by rw [q]; decide)))
      have g := ih (k := k + 1) (I := I2) (hP.keep f2.P) (hY.keep (f2 _ (by decide)) (f2 _ (by decide)) (f2 _ (by decide))) (by omega) (fun I' f => h I' (f2.tr f))
      rw [em_sm, if_pos q2, em_nadd, (em_csN_ok P Y k).1, nI_succ] at g
      iterate 4 refine em_next rfl ?_
      exact g
theorem ce_cost_dnight (hP : cp_P I P.1 P.2.1 P.2.2.1 P.2.2.2.1) (hY : ct_N I 271 P.1 Y.1 Y.2.1 P.2.2.2.2 Y.2.2) {a : Int32} {s : Nat} (ea : a = nI s) (hs : s < 2 ^ P.1) (h : ∀ I' : Nat → Nat → Int32, em_fK I I' → Q (some (.int (nI (em_sm (fun b => if s.testBit b then em_csN P Y b else 0) P.1)))) (em_SH, I', J, em_RT lw)) : em_call (d + 2) 53 [.ref 24, .ref 271, .int a] (em_SH, I, J, em_RT lw) Q := by
  iterate 4 refine em_next rfl ?_
  exact ce_cost_l_dnight (k := 0) (m := P.1) hP hY ea hs (by omega) h
theorem em_it_s (P : em_Pl) (stl : Bool) (sd : Int32) (k : Nat) (X : em_Nt) : em_it P stl sd (k + 1) X = em_step P stl sd (em_it P stl sd k X) := rfl
theorem ce_shows_l (hS : cl_S I lp P X) {n k m : Nat} (hnn : n ≤ 48) (hk : k + m = n) (hY : cd_T I P (em_it P true 0 k X)) (h : ∀ I' : Nat → Nat → Int32, em_fC I I' → cl_S I' lp P X → Q (some (.int (nI (em_pc (em_sh P (em_it P true 0 n X)))))) (em_SH, I', J, em_RT lw)) : em_wp em_sc0 (d + 8) 147 28 [some (.ref 1), some (.int (nI n)), some (.int (nI k))] [] (em_SH, I, J, em_RT lw) Q := by
  have hn := hS.1.1.1
  have hp9 := em_pow9 hn
  have hX := hS.2.2.2.2
  induction m generalizing k I with
  | zero =>
    have e : k = n := by omega
    subst e
    iterate 3 refine em_next rfl ?_
    refine em_c_ge (fun _ => ?_) (fun h1 => absurd (nI_le (Nat.le_refl _) (by omega)) h1)
    iterate 5 refine em_next rfl ?_
    refine em_inv_call rfl (ce_shown_dnight hS.1 hY ?_)
    have hlt : em_sh P (em_it P true 0 k X) < 2 ^ P.1 := em_or_lt _ _
    refine em_inv_call rfl (ce_bits rfl (by omega) ?_)
    exact em_done rfl (h I em_fC.rf hS)
  | succ m ih =>
    have hh := em_it_h P true 0 k X
    iterate 3 refine em_next rfl ?_
    refine em_c_ge (fun h1 => absurd h1 (nI_ge (by omega) (by omega))) (fun _ => ?_)
    iterate 5 refine em_next rfl ?_
    refine em_inv_call rfl (ce_dh hS hY (by omega) (fun I1 a1 a2 a3 => ?_))
    iterate 2 refine em_next rfl ?_
    have g := ih (k := k + 1) (I := I1) a2 (by omega) a3 (fun I' f => h I' (a1.tr f))
    rw [nI_succ] at g
    exact g
theorem cq_shows (hS : cl_S I lp P X) {n : Int32} (h : ∀ I' : Nat → Nat → Int32, em_fW I I' → cl_S I' lp P X → Q (some (.int (sp_shows P X n))) (em_SH, I', J, em_RT lw)) : em_call (d + 8) 147 [.ref 1, .int n] (em_SH, I, J, em_RT lw) Q := by
  unfold sp_shows at h
  iterate 3 refine em_next rfl ?_
  refine em_inv_call rfl (ce_within (a := 0) (b := 48) ?_)
  iterate 1 refine em_next rfl ?_
  refine em_b_ne (fun g => ?_) (fun g => ?_)
  · rw [if_pos g] at h
    obtain ⟨m, hm, rfl, em⟩ := em_nat (m := 48) (by decide) g.1 g.2
    rw [em] at h
    iterate 5 refine em_next rfl ?_
    refine em_inv_call rfl (ce_lieE hS hS.rw hS.2.1.1.1 (fun I1 a1 a2 a3 a4 _ => ?_))
    iterate 2 refine em_next rfl ?_
    exact ce_shows_l (k := 0) (m := m) a2 hm (by omega) a4 (fun I' f s => h I' (a1.tr f).W s)
  · rw [if_neg g] at h
    iterate 1 refine em_next rfl ?_
    exact em_done rfl (h I em_fW.rf hS)
theorem ce_again_l (hS : cl_S I lp P X) {k m : Nat} (hk : k + m = 240) (hY : cd_N I lp P (em_it P true 0 k X)) (h : ∀ I' : Nat → Nat → Int32, em_fC I I' → cl_S I' lp P X → Q (some (.int (em_fh (fun k => decide ((em_it P true 0 k X).1 = X.1)) (k + 1) m))) (em_SH, I', J, em_RT lw)) : em_wp em_sc0 (d + 8) 149 16 [some (.ref 1), some (.int (nI (k + 1)))] [] (em_SH, I, J, em_RT lw) Q := by
  have hn := hS.1.1.1
  have hr := hS.2.1.1.1
  have hp9 := em_pow9 hn
  have hX := hS.2.2.2.2
  induction m generalizing k I with
  | zero =>
    have e : k = 240 := by omega
    subst e
    iterate 3 refine em_next rfl ?_
    refine em_c_gt (fun _ => ?_) (fun h1 => absurd (by decide) h1)
    iterate 1 refine em_next rfl ?_
    exact em_done rfl (h I em_fC.rf hS)
  | succ m ih =>
    have hh := em_it_h P true 0 k X
    iterate 3 refine em_next rfl ?_
    refine em_c_gt (fun h1 => absurd h1 (nI_nlt (a := 240) (by omega) (by decide))) (fun _ => ?_)
    iterate 2 refine em_next rfl ?_
    refine em_inv_call rfl (ce_passRowHour hS hY (by omega) (fun I1 a1 a2 a3 => ?_))
    have hlt : (em_it P true 0 (k + 1) X).1 < 2 ^ P.1 := em_it_lt _ _ _ _ hr
    iterate 8 refine em_next rfl ?_
    rw [em_fh] at h
    refine em_c_neE (x' := nI (em_it P true 0 (k + 1) X).1) a3.1.2.2.1 a2.rw (fun q => ?_) (fun q => ?_)
    · rw [decide_eq_false (fun e => q (by rw [e])), if_neg (by decide)] at h
      iterate 2 refine em_next rfl ?_
      have g := ih (k := k + 1) (I := I1) a2 (by omega) a3 (fun I' f => h I' (a1.tr f))
      rw [nI_succ] at g
      exact g
    · rw [decide_eq_true ((nI_eq (by omega) (by omega)).mp q), if_pos rfl] at h
      iterate 1 refine em_next rfl ?_
      exact em_done rfl (h I1 a1 a2)
theorem cq_again (hS : cl_S I lp P X) (h : ∀ I' : Nat → Nat → Int32, em_fW I I' → cl_S I' lp P X → Q (some (.int (sp_again P X))) (em_SH, I', J, em_RT lw)) : em_call (d + 8) 149 [.ref 1] (em_SH, I, J, em_RT lw) Q := by
  iterate 5 refine em_next rfl ?_
  refine em_inv_call rfl (ce_lieE hS hS.rw hS.2.1.1.1 (fun I1 a1 a2 a3 a4 _ => ?_))
  iterate 2 refine em_next rfl ?_
  exact ce_again_l (k := 0) (m := 240) a2 (by omega) a3 (fun I' f s => h I' (a1.tr f).W s)
theorem ce_leave_l (hS : cl_S I lp P X) {k m b : Nat} {s : Bool} (hb : b < P.1) (hk : k + m = 240) (hY : cd_T I P (em_it P true 0 k X)) (h : ∀ I' : Nat → Nat → Int32, em_fC I I' → cl_S I' lp P X → Q (some (.int (em_fh (fun k => decide (0 < (em_it P true 0 k X).2.2 b) != s) (k + 1) m))) (em_SH, I', J, em_RT lw)) : em_wp em_sc0 (d + 8) 152 47 [some (.ref 1), some (.int (nI b)), some (.int (em_bb s)), some (.int (nI (k + 1)))] [] (em_SH, I, J, em_RT lw) Q := by
  have hn := hS.1.1.1
  have hX := hS.2.2.2.2
  induction m generalizing k I with
  | zero =>
    have e : k = 240 := by omega
    subst e
    iterate 3 refine em_next rfl ?_
    refine em_c_gt (fun _ => ?_) (fun h1 => absurd (by decide) h1)
    iterate 1 refine em_next rfl ?_
    exact em_done rfl (h I em_fC.rf hS)
  | succ m ih =>
    have hh := em_it_h P true 0 k X
    iterate 3 refine em_next rfl ?_
    refine em_c_gt (fun h1 => absurd h1 (nI_nlt (a := 240) (by omega) (by decide))) (fun _ => ?_)
    iterate 5 refine em_next rfl ?_
    refine em_inv_call rfl (ce_dh hS hY (by omega) (fun I1 a1 a2 a3 => ?_))
    iterate 5 refine em_next rfl ?_
    refine em_ialn rfl rfl (by omega) (by decide) ?_
    iterate 1 refine em_next rfl ?_
    rw [em_fh] at h
    have gs : (decide (0 < (em_it P true 0 (k + 1) X).2.2 b) != s) = false → em_wp em_sc0 (d + 8) 152 94 [some (.ref 1), some (.int (nI b)), some (.int (em_bb s)), some (.int (nI (k + 1)))] [] (em_SH, I1, J, em_RT lw) Q := fun e => by
      rw [e, if_neg (by decide)] at h
      iterate 2 refine em_next rfl ?_
      have g := ih (k := k + 1) (I := I1) a2 (by omega) a3 (fun I' f => h I' (a1.tr f))
      rw [nI_succ] at g
      exact g
    have gt : (decide (0 < (em_it P true 0 (k + 1) X).2.2 b) != s) = true → em_wp em_sc0 (d + 8) 152 92 [some (.ref 1), some (.int (nI b)), some (.int (em_bb s)), some (.int (nI (k + 1)))] [] (em_SH, I1, J, em_RT lw) Q := fun e => by
      rw [e, if_pos rfl] at h
      iterate 1 refine em_next rfl ?_
      exact em_done rfl (h I1 a1 a2)
    refine em_z_leE (a3.2 b hb).2 (fun q => ?_) (fun q => ?_)
    · have q2 : decide (0 < (em_it P true 0 (k + 1) X).2.2 b) = false := decide_eq_false (Int32.not_lt.mpr q)
      rw [q2] at gs gt
      iterate 3 refine em_next rfl ?_
      cases s
      · exact em_c_eq (fun _ => gs rfl) (fun q => absurd rfl q)
      · exact em_c_eq (fun q => absurd q (by decide)) (fun _ => gt rfl)
    · have q2 : decide (0 < (em_it P true 0 (k + 1) X).2.2 b) = true := decide_eq_true (Int32.not_le.mp q)
      rw [q2] at gs gt
      iterate 4 refine em_next rfl ?_
      cases s
      · exact em_c_eq (fun q => absurd q (by decide)) (fun _ => gt rfl)
      · exact em_c_eq (fun _ => gs rfl) (fun q => absurd rfl q)
theorem cq_leave (hS : cl_S I lp P X) {b : Int32} (h : ∀ I' : Nat → Nat → Int32, em_fW I I' → cl_S I' lp P X → Q (some (.int (sp_leave P X b))) (em_SH, I', J, em_RT lw)) : em_call (d + 8) 152 [.ref 1, .int b] (em_SH, I, J, em_RT lw) Q := by
  have hn := hS.1.1.1
  unfold sp_leave at h
  iterate 3 refine em_next rfl ?_
  refine em_inv_call rfl (ce_hasBed hS.1 ?_)
  iterate 1 refine em_next rfl ?_
  refine em_b_ne (fun g => ?_) (fun g => ?_)
  · rw [if_pos g] at h
    obtain ⟨s, hs, rfl, es⟩ := em_bedN hn g
    rw [es] at h
    iterate 4 refine em_next rfl ?_
    refine em_ialn rfl rfl (by omega) (by decide) ?_
    iterate 1 refine em_next rfl ?_
    refine em_z_leE (hS.2.1.2 s hs).2 (fun q => ?_) (fun q => ?_)
    · rw [decide_eq_false (Int32.not_lt.mpr q)] at h
      iterate 7 refine em_next rfl ?_
      refine em_inv_call rfl (ce_lieE hS hS.rw hS.2.1.1.1 (fun I1 a1 a2 a3 a4 _ => ?_))
      iterate 2 refine em_next rfl ?_
      exact ce_leave_l (k := 0) (m := 240) (s := false) a2 hs (by omega) a4 (fun I' f s => h I' (a1.tr f).W s)
    · rw [decide_eq_true (Int32.not_le.mp q)] at h
      iterate 8 refine em_next rfl ?_
      refine em_inv_call rfl (ce_lieE hS hS.rw hS.2.1.1.1 (fun I1 a1 a2 a3 a4 _ => ?_))
      iterate 2 refine em_next rfl ?_
      exact ce_leave_l (k := 0) (m := 240) (s := true) a2 hs (by omega) a4 (fun I' f s => h I' (a1.tr f).W s)
  · rw [if_neg g] at h
    iterate 1 refine em_next rfl ?_
    exact em_done rfl (h I em_fW.rf hS)
end CQ5

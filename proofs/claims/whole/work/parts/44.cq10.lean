/-! the class: its questions, nine: sentry, round, then -/
section CQ10
variable {d lw : Nat} {P : em_Pl} {X Y : em_Nt} {D : em_Td} {lp : Bool} {part : Nat → Int32} {I I0 : Nat → Nat → Int32} {J : Nat → Nat → Int64} {M : em_M} {Q : Option Value → em_M → Prop} {v : List Int32} {sd : Int32}
theorem ce_few_l (hS : cl_S I lp P X) {n g k m : Nat} (hg : g < P.1) (hv : ∀ b, b < P.1 → I 280 b = nI (em_lf P X n b)) (hk : k + m = P.1) (h : Q (some (.int (nI (ec_fm 9 (em_lf P X n) (em_ai (fun b => decide (b ≠ g)) (em_lf P X n) P.1))))) (em_SH, I, J, em_RT lw)) : em_wp em_sc0 d 116 5 [some (.ref 279), some (.int (nI g)), some (.int (nI (ec_fm 9 (em_lf P X n) (em_ai (fun b => decide (b ≠ g)) (em_lf P X n) k)))), some (.int (nI k))] [] (em_SH, I, J, em_RT lw) Q := by
  have hn := hS.1.1.1
  induction m generalizing k with
  | zero =>
    have e : k = P.1 := by omega
    subst e
    iterate 5 refine em_next rfl ?_
    refine em_c_geE rfl hS.mn (fun _ => ?_) (fun h1 => absurd (nI_le (Nat.le_refl _) (by omega)) h1)
    iterate 1 refine em_next rfl ?_
    exact em_done rfl h
  | succ m ih =>
    have l1 := em_lf_le P X n k
    have l2 : ec_fm 9 (em_lf P X n) (em_ai (fun b => decide (b ≠ g)) (em_lf P X n) k) ≤ 9 := by
      cases em_ai (fun b => decide (b ≠ g)) (em_lf P X n) k with
      | none => exact Nat.le_refl _
      | some b => exact em_lf_le P X n b
    have g1 := ih (k := k + 1) (by omega)
    rw [nI_succ] at g1
    iterate 5 refine em_next rfl ?_
    refine em_c_geE rfl hS.mn (fun h1 => absurd h1 (nI_ge (by omega) (by omega))) (fun _ => ?_)
    iterate 3 refine em_next rfl ?_
    refine em_c_eq (fun q => ?_) (fun q => ?_)
    · have q2 : k = g := (nI_eq (by omega) (by omega)).mp q
      rw [em_ai_no (decide_eq_false (fun z => z q2))] at g1
      iterate 2 refine em_next rfl ?_
      exact g1
    · have q2 : k ≠ g := fun e => q (by rw [e])
      iterate 4 refine em_next rfl ?_
      refine em_ialn rfl rfl (by omega) (by decide) ?_
      refine em_tp (hv k (by omega)) ?_
      iterate 1 refine em_next rfl ?_
      refine em_tp (em_mnE (by omega) (by omega)) ?_
      have ee : ec_fm 9 (em_lf P X n) (em_ai (fun b => decide (b ≠ g)) (em_lf P X n) (k + 1)) = if em_lf P X n k < ec_fm 9 (em_lf P X n) (em_ai (fun b => decide (b ≠ g)) (em_lf P X n) k) then em_lf P X n k else ec_fm 9 (em_lf P X n) (em_ai (fun b => decide (b ≠ g)) (em_lf P X n) k) := by
        rw [em_ai]
        cases em_ai (fun b => decide (b ≠ g)) (em_lf P X n) k with
        | none =>
          dsimp only
          rw [decide_eq_true q2, if_pos rfl]
          show em_lf P X n k = if em_lf P X n k < 9 then em_lf P X n k else 9
          split <;> omega
        | some b =>
          dsimp only
          rw [decide_eq_true q2, Bool.true_and]
          show ec_fm 9 (em_lf P X n) (if decide (em_lf P X n k < em_lf P X n b) = true then some k else some b) = if em_lf P X n k < em_lf P X n b then em_lf P X n k else em_lf P X n b
          by_cases z : em_lf P X n k < em_lf P X n b
          · rw [decide_eq_true z, if_pos rfl, if_pos z]; rfl
          · rw [decide_eq_false z, if_neg (by decide), if_neg z]; rfl
      rw [ee] at g1
      iterate 3 refine em_next rfl ?_
      exact g1
theorem ce_few (hS : cl_S I lp P X) {n g : Nat} (hg : g < P.1) (hv : ∀ b, b < P.1 → I 280 b = nI (em_lf P X n b)) (h : Q (some (.int (nI (ec_fm 9 (em_lf P X n) (em_ai (fun b => decide (b ≠ g)) (em_lf P X n) P.1))))) (em_SH, I, J, em_RT lw)) : em_call d 116 [.ref 279, .int (nI g)] (em_SH, I, J, em_RT lw) Q := by
  iterate 4 refine em_next rfl ?_
  exact ce_few_l (k := 0) (m := P.1) hS hg hv (by omega) h
theorem em_ai_ex {p : Nat → Bool} {u : Nat → Nat} {n j : Nat} (hj : j < n) (hp : p j = true) : ∃ b, em_ai p u n = some b := by
  induction n with
  | zero => omega
  | succ n ih =>
    rw [em_ai]
    cases e : em_ai p u n with
    | none =>
      by_cases z : j = n
      · subst z
        exact ⟨j, if_pos hp⟩
      · obtain ⟨b, hb⟩ := ih (by omega)
        rw [hb] at e; cases e
    | some b =>
      dsimp only
      split
      · exact ⟨n, rfl⟩
      · exact ⟨b, rfl⟩
theorem em_sv_1 {n : Nat} (h1 : P.1 = 1) : em_sv P X n 0 = em_pc (em_R P X n X.1) := by
  unfold em_sv
  rw [h1]
  rfl
theorem em_sv_n {n g : Nat} (h1 : ¬ P.1 = 1) (hg : g < P.1) : em_sv P X n g = ec_fm 9 (em_lf P X n) (em_ai (fun b => decide (b ≠ g)) (em_lf P X n) P.1) := by
  unfold em_sv
  obtain ⟨b, hb⟩ : ∃ b, em_ai (fun b => decide (b ≠ g)) (em_lf P X n) P.1 = some b := by
    by_cases z : g = 0
    · exact em_ai_ex (j := 1) (by omega) (decide_eq_true (by omega))
    · exact em_ai_ex (j := 0) (by omega) (decide_eq_true (by omega))
  rw [hb]
  rfl
theorem ce_sentry_l (hS : cl_S I lp P X) {x : Int32} {n k m : Nat} {o : Option Value} (hk : k + m = P.1) (hv : ∀ b, b < P.1 → I 280 b = nI (em_lf P X n b)) (hw : wh_st I (em_xi (em_sv P X n) k) (em_sv P X n)) (h : ∀ I' : Nat → Nat → Int32, em_fW I I' → cl_S I' lp P X → wh_st I' (em_xi (em_sv P X n) P.1) (em_sv P X n) → Q none (em_SH, I', J, em_RT lw)) : em_wp em_sc0 (d + 5) 115 33 [some (.ref 279), some (.int (x)), some (.int (nI (em_pc (em_R P X n X.1)))), some (.int (nI k)), o] [] (em_SH, I, J, em_RT lw) Q := by
  have hn := hS.1.1.1
  induction m generalizing k I o with
  | zero =>
    have e : k = P.1 := by omega
    subst e
    iterate 5 refine em_next rfl ?_
    refine em_c_geE rfl hS.mn (fun _ => ?_) (fun h1 => absurd (nI_le (Nat.le_refl _) (by omega)) h1)
    exact em_done rfl (h I em_fW.rf hS hw)
  | succ m ih =>
    have l1 := em_sv_le P X n k
    iterate 5 refine em_next rfl ?_
    refine em_c_geE rfl hS.mn (fun h1 => absurd h1 (nI_ge (by omega) (by omega))) (fun _ => ?_)
    have gg : em_xi (em_sv P X n) (k + 1) = some k → em_wp em_sc0 (d + 5) 115 84 [some (.ref 279), some (.int (x)), some (.int (nI (em_pc (em_R P X n X.1)))), some (.int (nI k)), some (.int (nI (em_sv P X n k)))] [] (em_SH, I, J, em_RT lw) Q := fun e => by
      iterate 3 refine em_next rfl ?_
      refine em_inv_call rfl (ce_settle hS (fun I2 b1 b2 b3 b4 b5 => ?_))
      iterate 2 refine em_next rfl ?_
      have g := ih (k := k + 1) (I := I2) (o := some (.int (nI (em_sv P X n k)))) b3 (by omega) (fun b hb => by rw [b1 _ (by decide)]; exact hv b hb) (by rw [e]; exact ⟨b4, b5⟩) (fun I' f => h I' (b2.tr f))
      rw [nI_succ] at g
      exact g
    have mid : em_wp em_sc0 (d + 5) 115 66 [some (.ref 279), some (.int (x)), some (.int (nI (em_pc (em_R P X n X.1)))), some (.int (nI k)), some (.int (nI (em_sv P X n k)))] [] (em_SH, I, J, em_RT lw) Q := by
      iterate 4 refine em_next rfl ?_
      cases e : em_xi (em_sv P X n) k with
      | none =>
        rw [e] at hw
        refine em_c_eqE hw.1 rfl (fun _ => ?_) (fun q => absurd rfl q)
        exact gg (by rw [em_xi, e])
      | some b =>
        have hb : b < k := em_xi_lt e
        have l2 := em_sv_le P X n b
        have en : em_xi (em_sv P X n) (k + 1) = if em_sv P X n b < em_sv P X n k then some k else some b := by rw [em_xi, e]
        rw [e] at hw
        refine em_c_eqE hw.1 rfl (fun q => absurd q (ec_no3 b (by omega))) (fun _ => ?_)
        iterate 4 refine em_next rfl ?_
        refine em_c_leE (x' := nI (em_sv P X n k)) rfl hw.2 (fun q => ?_) (fun q => ?_)
        · have q2 := (nI_leI (by omega) (by omega)).mp q
          rw [if_neg (by omega)] at en
          iterate 2 refine em_next rfl ?_
          have g := ih (k := k + 1) (I := I) (o := some (.int (nI (em_sv P X n k)))) hS (by omega) hv (by rw [en]; exact hw) h
          rw [nI_succ] at g
          exact g
        · have q2 := Nat.not_le.mp (fun z => q ((nI_leI (by omega) (by omega)).mpr z))
          rw [if_pos q2] at en
          exact gg en
    iterate 5 refine em_next rfl ?_
    refine em_c_neE hS.mn (y' := nI 1) rfl (fun q => ?_) (fun q => ?_)
    · have q2 : ¬ P.1 = 1 := fun e => q (by rw [e])
      iterate 2 refine em_next rfl ?_
      refine em_inv_call rfl (ce_few hS (by omega) hv ?_)
      rw [← em_sv_n q2 (by omega)]
      iterate 1 refine em_next rfl ?_
      exact mid
    · have q2 : P.1 = 1 := (nI_eq (by omega) (by decide)).mp q
      have e0 : k = 0 := by omega
      subst e0
      rw [em_sv_1 q2] at mid
      iterate 3 refine em_next rfl ?_
      exact mid
theorem cq_sentry (hS : cl_S I lp P X) {n w : Int32} (h : ∀ I' : Nat → Nat → Int32, em_fW I I' → cl_S I' lp P X → Q (some (.int (sp_sentry P X n w))) (em_SH, I', J, em_RT lw)) : em_call (d + 9) 145 [.ref 1, .int n, .int w] (em_SH, I, J, em_RT lw) Q := by
  have hn := hS.1.1.1
  have hp9 := em_pow9 hn
  unfold sp_sentry at h
  iterate 3 refine em_next rfl ?_
  refine em_inv_call rfl (ce_within (a := 0) (b := 24) ?_)
  iterate 1 refine em_next rfl ?_
  refine em_b_eq (fun g => ?_) (fun g => ?_)
  · rw [if_neg (fun q => g q.1)] at h
    iterate 1 refine em_next rfl ?_
    exact em_done rfl (h I em_fW.rf hS)
  iterate 1 refine em_next rfl ?_
  refine em_inv_call rfl (ce_pair ?_)
  iterate 1 refine em_next rfl ?_
  refine em_b_ne (fun g2 => ?_) (fun g2 => ?_)
  · rw [if_pos ⟨g, g2⟩] at h
    obtain ⟨m, hm, rfl, em⟩ := em_nat (m := 24) (by decide) g.1 g.2
    rw [em] at h
    iterate 3 refine em_next rfl ?_
    refine em_inv_call rfl ?_
    iterate 2 refine em_next rfl ?_
    refine em_inv_call rfl (ce_each hS (by omega) (fun I1 a1 a2 a3 => ?_))
    iterate 6 refine em_next rfl ?_
    refine em_inv_call rfl (ce_Ra a2 a2.rw a2.2.1.1.1 (by omega) (fun I2 b1 b2 => ?_))
    have hlt : em_R P X m X.1 < 2 ^ P.1 := em_R_lt a2.2.1.1.1
    refine em_inv_call rfl (ce_bits rfl (by omega) ?_)
    iterate 4 refine em_next rfl ?_
    refine em_inv_call rfl (ce_settle b2 (fun I3 c1 c2 c3 c4 c5 => ?_))
    iterate 2 refine em_next rfl ?_
    refine ce_sentry_l (d := d + 3) (k := 0) (m := P.1) (n := m) c3 (by omega) (fun b hb => by rw [c1 _ (by decide), b1 _ (by decide)]; exact a3 b hb) ⟨c4, c5⟩ (fun I4 e1 e2 e3 => ?_)
    have h := h I4 (((a1.tr b1.W).tr c2).tr e1) e2
    iterate 5 refine em_next rfl ?_
    refine em_c_ne (fun q => ?_) (fun q => ?_)
    · iterate 1 refine em_next rfl ?_
      refine em_inv_call rfl (ce_answer (em_xi_lt9 hn) e3 ?_)
      rw [if_pos (show Int32.ofInt 0 = 0 from rfl)]
      have g3 : w = 0 := by
        rcases em_nat (m := 1) (by decide) g2.1 g2.2 with ⟨s, hs, rfl, -⟩
        rcases (show s = 0 ∨ s = 1 by omega) with rfl | rfl
        · rfl
        · exact absurd rfl q
      rw [if_pos g3] at h
      exact em_done rfl h
    · iterate 2 refine em_next rfl ?_
      refine em_inv_call rfl (ce_answer (em_xi_lt9 hn) e3 ?_)
      rw [if_neg (by decide)]
      have g3 : ¬ w = 0 := by rw [q]; decide
      rw [if_neg g3] at h
      exact em_done rfl h
  · rw [if_neg (fun q => g2 q.2)] at h
    iterate 1 refine em_next rfl ?_
    exact em_done rfl (h I em_fW.rf hS)
theorem ce_round_l (hS : cl_S I lp P X) {n k m : Nat} {o : Option Value} (hnn : n ≤ 48) (hk : k + m = n) (hY : cd_T I P (em_rd P X k)) (h1 : I 277 6 = nI (em_sm (em_rc P X) k)) (h2 : I 277 7 = nI (em_sm (em_rs P X) k)) (h : ∀ I' : Nat → Nat → Int32, em_fW I I' → cl_S I' lp P X → I' 277 6 = nI (em_sm (em_rc P X) n) → I' 277 7 = nI (em_sm (em_rs P X) n) → Q none (em_SH, I', J, em_RT lw)) : em_wp em_sc0 (d + 4) 109 26 [some (.ref 277), some (.int (nI n)), some (.int (nI k)), o] [] (em_SH, I, J, em_RT lw) Q := by
  have hn := hS.1.1.1
  have hX := hS.2.2.2.2
  have hp9 := em_pow9 hn
  have hp := Nat.two_pow_pos P.1
  induction m generalizing k I o with
  | zero =>
    have e : k = n := by omega
    subst e
    iterate 3 refine em_next rfl ?_
    refine em_c_ge (fun _ => ?_) (fun h1 => absurd (nI_le (Nat.le_refl _) (by omega)) h1)
    exact em_done rfl (h I em_fW.rf hS h1 h2)
  | succ m ih =>
    have hh := em_rd_h P X k
    have hY1 := hY.1.1
    have ecp := em_cplb hY1
    iterate 3 refine em_next rfl ?_
    refine em_c_ge (fun h1 => absurd h1 (nI_ge (by omega) (by omega))) (fun _ => ?_)
    iterate 2 refine em_next rfl ?_
    refine em_inv_call rfl (ce_allLeft hS.1 ?_)
    iterate 7 refine em_next rfl ?_
    refine em_tp (em_notE hY.1.2.2.1 (by omega) hY1) ?_
    iterate 5 refine em_next rfl ?_
    refine em_inv_call rfl (ce_bits rfl (by omega) ?_)
    rw [ecp, em_pc_or hn]
    iterate 1 refine em_next rfl ?_
    refine em_tp (y := nI (em_sm (em_rc P X) (k + 1))) (em_addN h1 rfl) ?_
    iterate 10 refine em_next rfl ?_
    show em_wp em_sc0 (d + 4) 109 _ _ _ (em_SH, em_u I 277 6 (nI (em_sm (em_rc P X) (k + 1))), J, em_RT lw) Q
    have hr1 : ∀ c, c ≠ 277 → em_u I 277 6 (nI (em_sm (em_rc P X) (k + 1))) c = I c := fun c hc => em_u_row hc
    have hS1 := hS.row (a := 277) (by decide) hr1
    have hf1 := em_fW.row (a := 277) (by decide) hr1
    have hY2 : cd_T (em_u I 277 6 (nI (em_sm (em_rc P X) (k + 1)))) P (em_rd P X k) := ct_N.keep hY (hr1 _ (by decide)) (hr1 _ (by decide)) (hr1 _ (by decide))
    have e2 : em_u I 277 6 (nI (em_sm (em_rc P X) (k + 1))) 277 7 = nI (em_sm (em_rs P X) k) := by rw [em_u_ne (by decide)]; exact h2
    have e1 : em_u I 277 6 (nI (em_sm (em_rc P X) (k + 1))) 277 6 = nI (em_sm (em_rc P X) (k + 1)) := em_u_self
    generalize em_u I 277 6 (nI (em_sm (em_rc P X) (k + 1))) = I1 at hr1 hS1 hf1 hY2 e1 e2 ⊢
    refine em_inv_call rfl (ce_cost_dnight hS1.1 hY2 rfl (em_or_lt _ _) (fun I2 b1 => ?_))
    have esm : em_sm (fun b => if (em_or P.1 (fun b => !(em_rd P X k).1.testBit b)).testBit b then em_csN P (em_rd P X k) b else 0) P.1 = em_rs P X k := em_sm_congr (fun b hb => by
      rw [em_or_bit hb]
      cases (em_rd P X k).1.testBit b <;> rfl)
    rw [esm]
    iterate 1 refine em_next rfl ?_
    refine em_tp (y := nI (em_sm (em_rs P X) (k + 1))) (em_addN h2 rfl) ?_
    iterate 6 refine em_next rfl ?_
    show em_wp em_sc0 (d + 4) 109 _ _ _ (em_SH, em_u I2 277 7 (nI (em_sm (em_rs P X) (k + 1))), J, em_RT lw) Q
    have hr2 : ∀ c, c ≠ 277 → em_u I2 277 7 (nI (em_sm (em_rs P X) (k + 1))) c = I2 c := fun c hc => em_u_row hc
    have hS2 := (hS1.kK b1).row (a := 277) (by decide) hr2
    have hf2 := (hf1.tr b1.C.W).tr (em_fW.row (a := 277) (by decide) hr2)
    have hY3 : cd_T (em_u I2 277 7 (nI (em_sm (em_rs P X) (k + 1)))) P (em_rd P X k) := ct_N.keep (hY2.kK b1) (hr2 _ (by decide)) (hr2 _ (by decide)) (hr2 _ (by decide))
    have e3 : em_u I2 277 7 (nI (em_sm (em_rs P X) (k + 1))) 277 6 = nI (em_sm (em_rc P X) (k + 1)) := by rw [em_u_ne (by decide), b1 _ (by decide)]; exact e1
    have e4 : em_u I2 277 7 (nI (em_sm (em_rs P X) (k + 1))) 277 7 = nI (em_sm (em_rs P X) (k + 1)) := em_u_self
    generalize em_u I2 277 7 (nI (em_sm (em_rs P X) (k + 1))) = I3 at hr2 hS2 hf2 hY3 e3 e4 ⊢
    refine em_inv_call rfl (ce_allLeft hS2.1 ?_)
    iterate 6 refine em_next rfl ?_
    show em_wp em_sc0 (d + 4) 109 _ _ _ (em_SH, em_u I3 271 4 (nI (2 ^ P.1 - 1)), J, em_RT lw) Q
    have hr4 : ∀ c, c ≠ 271 → em_u I3 271 4 (nI (2 ^ P.1 - 1)) c = I3 c := fun c hc => em_u_row hc
    have fC4 : em_fC I3 (em_u I3 271 4 (nI (2 ^ P.1 - 1))) := fun a ha => hr4 a (fun q => ha (by rw [q]; decide))
    have hS4 := hS2.kR fC4 (hr4 _ (by decide))
    have hY4 : cd_T (em_u I3 271 4 (nI (2 ^ P.1 - 1))) P (2 ^ P.1 - 1, (em_rd P X k).2) := by
      refine ⟨⟨by dsimp only; omega, hY3.1.2.1, em_u_self, ?_⟩, fun b hb => ?_⟩
      · rw [em_u_ne (by decide)]; exact hY3.1.2.2.2
      · rw [hr4 _ (by decide), hr4 _ (by decide)]
        exact hY3.2 b hb
    refine em_inv_call rfl (ce_dh hS4 hY4 (by dsimp only; omega) (fun I5 c1 c2 c3 => ?_))
    iterate 2 refine em_next rfl ?_
    have g := ih (k := k + 1) (I := I5) (o := some (.int (nI (em_or P.1 (fun b => !(em_rd P X k).1.testBit b))))) c2 (by omega) c3 (by rw [c1 _ (by decide), hr4 _ (by decide)]; exact e3) (by rw [c1 _ (by decide), hr4 _ (by decide)]; exact e4) (fun I' f => h I' ((hf2.tr (fC4.tr c1).W).tr f))
    rw [nI_succ] at g
    exact g
theorem cq_round (hS : cl_S I lp P X) {n w : Int32} (h : ∀ I' : Nat → Nat → Int32, em_fW I I' → cl_S I' lp P X → Q (some (.int (sp_round P X n w))) (em_SH, I', J, em_RT lw)) : em_call (d + 8) 138 [.ref 1, .int n, .int w] (em_SH, I, J, em_RT lw) Q := by
  unfold sp_round at h
  iterate 3 refine em_next rfl ?_
  refine em_inv_call rfl (ce_within (a := 1) (b := 48) ?_)
  iterate 1 refine em_next rfl ?_
  refine em_b_eq (fun g => ?_) (fun g => ?_)
  · rw [if_neg (fun q => g q.1)] at h
    iterate 1 refine em_next rfl ?_
    exact em_done rfl (h I em_fW.rf hS)
  iterate 1 refine em_next rfl ?_
  refine em_inv_call rfl (ce_pair ?_)
  iterate 1 refine em_next rfl ?_
  refine em_b_ne (fun g2 => ?_) (fun g2 => ?_)
  · rw [if_pos ⟨g, g2⟩] at h
    obtain ⟨m, hm, rfl, em⟩ := em_nat (m := 48) (by decide) (Int32.le_trans (by decide) g.1) g.2
    rw [em] at h
    iterate 3 refine em_next rfl ?_
    refine em_inv_call rfl ?_
    iterate 11 refine em_next rfl ?_
    show em_wp em_sc0 (d + 7) 109 _ _ _ (em_SH, em_u (em_u I 277 6 0) 277 7 0, J, em_RT lw) _
    have hr1 : ∀ c, c ≠ 277 → em_u (em_u I 277 6 0) 277 7 0 c = I c := fun c hc => by rw [em_u_row hc, em_u_row hc]
    have hS1 := hS.row (a := 277) (by decide) hr1
    have hf1 : em_fW I _ := em_fW.row (a := 277) (by decide) hr1
    refine em_inv_call rfl (ce_lieE hS1 hS1.rw hS1.2.1.1.1 (fun I1 a1 a2 a3 a4 _ => ?_))
    iterate 2 refine em_next rfl ?_
    refine ce_round_l (d := d + 3) (k := 0) (m := m) a2 hm (by omega) a4 (by rw [a1 _ (by decide), em_u_ne (by decide), em_u_self]; rfl) (by rw [a1 _ (by decide), em_u_self]; rfl) (fun I2 b1 b2 b3 b4 => ?_)
    have h := h I2 ((hf1.tr a1.W).tr b1) b2
    iterate 2 refine em_next rfl ?_
    refine em_z_ne (fun z => ?_) (fun z => ?_)
    · rw [if_neg z] at h
      iterate 3 refine em_next rfl ?_
      exact em_doneE rfl b4 h
    · rw [if_pos z] at h
      iterate 3 refine em_next rfl ?_
      refine em_tp b3 ?_
      iterate 1 refine em_next rfl ?_
      exact em_done rfl h
  · rw [if_neg (fun q => g2 q.2)] at h
    iterate 1 refine em_next rfl ?_
    exact em_done rfl (h I em_fW.rf hS)
theorem ce_then_2 (hS : cl_S I lp P X) (hsd : I 24 11 = sd) {b n w : Int32} (g1 : em_ok 0 48 n) (g2 : em_ok 0 2 w) (g3 : w < 2 → em_okB P b) (h : ∀ I' : Nat → Nat → Int32, em_fW I I' → cl_S I' lp P X → Q (some (.int (sp_then P X sd b n w))) (em_SH, I', J, em_RT lw)) : em_wp em_sc0 (d + 8) 153 38 [some (.ref 1), some (.int (b)), some (.int (n)), some (.int (w))] [] (em_SH, I, J, em_RT lw) Q := by
  have hn := hS.1.1.1
  have hr := hS.2.1.1.1
  have hp9 := em_pow9 hn
  unfold sp_then at h
  rw [if_pos ⟨g1, g2, g3⟩] at h
  obtain ⟨m, hm, rfl, em⟩ := em_nat (m := 48) (by decide) g1.1 g1.2
  rw [em] at h
  iterate 6 refine em_next rfl ?_
  refine em_inv_call rfl (ce_sleep (sd := sd) hS hsd hm (fun I1 a1 a2 a3 => ?_))
  have h := h I1 a1.W a2
  have hlt : (em_it P false sd m X).1 < 2 ^ P.1 := em_it_lt _ _ _ _ hr
  obtain ⟨s, hs, rfl, -⟩ := em_nat (m := 2) (by decide) g2.1 g2.2
  rcases (show s = 0 ∨ s = 1 ∨ s = 2 by omega) with rfl | rfl | rfl
  · obtain ⟨j, hj, rfl, ej⟩ := em_bedN hn (g3 (by decide))
    rw [if_pos (by decide), ej] at h
    iterate 6 refine em_next rfl ?_
    refine em_tp a3.1.2.2.1 ?_
    iterate 4 refine em_next rfl ?_
    exact em_doneE rfl (em_bitC _ (by omega) j (by omega)) h
  · obtain ⟨j, hj, rfl, ej⟩ := em_bedN hn (g3 (by decide))
    rw [if_neg (by decide), if_pos (by decide), ej] at h
    iterate 7 refine em_next rfl ?_
    refine em_ialn rfl rfl (by omega) (by decide) ?_
    exact em_doneE rfl (a3.2 j hj).2 h
  · rw [if_neg (by decide), if_neg (by decide)] at h
    iterate 6 refine em_next rfl ?_
    refine em_inv_call rfl (ce_bits a3.1.2.2.1 (by omega) ?_)
    exact em_done rfl h
theorem cq_then (hS : cl_S I lp P X) (hsd : I 24 11 = sd) {b n w : Int32} (h : ∀ I' : Nat → Nat → Int32, em_fW I I' → cl_S I' lp P X → Q (some (.int (sp_then P X sd b n w))) (em_SH, I', J, em_RT lw)) : em_call (d + 8) 153 [.ref 1, .int b, .int n, .int w] (em_SH, I, J, em_RT lw) Q := by
  have hno : ¬ (em_ok 0 48 n ∧ em_ok 0 2 w ∧ (w < 2 → em_okB P b)) → Q (some (.int (-100000))) (em_SH, I, J, em_RT lw) := fun q => by
    have g := h I em_fW.rf hS
    unfold sp_then at g
    rw [if_neg q] at g
    exact g
  iterate 3 refine em_next rfl ?_
  refine em_inv_call rfl (ce_within (a := 0) (b := 48) ?_)
  iterate 1 refine em_next rfl ?_
  refine em_b_eq (fun g => ?_) (fun g => ?_)
  · iterate 1 refine em_next rfl ?_
    exact em_done rfl (hno (fun q => g q.1))
  iterate 3 refine em_next rfl ?_
  refine em_inv_call rfl (ce_within (a := 0) (b := 2) ?_)
  iterate 1 refine em_next rfl ?_
  refine em_b_eq (fun g2 => ?_) (fun g2 => ?_)
  · iterate 1 refine em_next rfl ?_
    exact em_done rfl (hno (fun q => g2 q.2.1))
  iterate 3 refine em_next rfl ?_
  refine em_c_geE rfl (y' := 2) rfl (fun q => ?_) (fun q => ?_)
  · exact ce_then_2 hS hsd g g2 (fun z => absurd q (Int32.not_le.mpr z)) h
  · iterate 3 refine em_next rfl ?_
    refine em_inv_call rfl (ce_hasBed hS.1 ?_)
    iterate 1 refine em_next rfl ?_
    refine em_b_ne (fun g3 => ?_) (fun g3 => ?_)
    · exact ce_then_2 hS hsd g g2 (fun _ => g3) h
    · iterate 1 refine em_next rfl ?_
      exact em_done rfl (hno (fun z => g3 (z.2.2 (Int32.not_le.mp q))))
end CQ10

/-! the reference: the cheapest set; one asked of; all counted; how all lay -/
section MQ7
variable {d lw lv : Nat} {P : em_Pl} {X Y : em_Nt} {I I0 : Nat → Nat → Int32} {J : Nat → Nat → Int64} {M : em_M} {Q : Option Value → em_M → Prop} {stl : Bool} {sd : Int32}
theorem me_fillsCosts_l (hS : mo_S I lv P X) (hN : mo_Nt I P X) {k m : Nat} (hk : k + m = P.1) (h0 : ∀ b, b < k → I 319 b = nI (em_csN P X b)) (h : ∀ I' : Nat → Nat → Int32, em_fQ I I' → (∀ b, b < P.1 → I' 319 b = nI (em_csN P X b)) → Q none (em_SH, I', J, em_RT lw)) : em_wp em_sc0 (d + 5) 237 6 [some (.ref 284), some (.int (nI k))] [] (em_SH, I, J, em_RT lw) Q := by
  have hn := hS.1.1.2.1
  induction m generalizing k I with
  | zero =>
    have e : k = P.1 := by omega
    subst e
    iterate 2 refine em_next rfl ?_
    refine em_inv_call rfl (me_many hS.1 ?_)
    iterate 1 refine em_next rfl ?_
    refine em_c_ge (fun _ => ?_) (fun h1 => absurd (nI_le (Nat.le_refl _) (by omega)) h1)
    exact em_done rfl (h I em_fQ.rf h0)
  | succ m ih =>
    iterate 2 refine em_next rfl ?_
    refine em_inv_call rfl (me_many hS.1 ?_)
    iterate 1 refine em_next rfl ?_
    refine em_c_ge (fun h1 => absurd h1 (nI_ge (by omega) (by omega))) (fun _ => ?_)
    iterate 5 refine em_next rfl ?_
    refine em_inv_call rfl (me_costsOf hS.1 hN (b := k) (by omega) (fun I1 a1 => ?_))
    refine em_iasn (k := k) rfl rfl (by omega) (by decide) ?_
    have f1 : em_fQ I (em_u I1 319 k (em_cst1 P X k)) := a1.M.Q.tr (em_fQ.row (a := 319) (by decide) (fun c hc => em_u_row hc))
    iterate 2 refine em_next rfl ?_
    have g := ih (k := k + 1) (I := em_u I1 319 k (em_cst1 P X k)) (hS.keepQ f1) (hN.keep (by rw [em_u_row (by decide), a1.row (by decide) (by decide) (by decide)])) (by omega) (fun b hb => ?_) (fun I' f => h I' (f1.tr f))
    · rw [nI_succ] at g
      exact g
    · by_cases q : b = k
      · subst q
        rw [em_u_self, (em_csN_ok P X b).1]
      · rw [em_u_ne q, a1.row (by decide) (by decide) (by decide)]
        exact h0 b (by omega)
theorem me_fillsCosts (hS : mo_S I lv P X) (h : ∀ I' : Nat → Nat → Int32, em_fQ I I' → (∀ b, b < P.1 → I' 319 b = nI (em_csN P X b)) → Q none (em_SH, I', J, em_RT lw)) : em_call (d + 5) 237 [.ref 284] (em_SH, I, J, em_RT lw) Q := by
  iterate 1 refine em_next rfl ?_
  refine em_inv_call rfl (me_copies hS.1 (fun I1 a1 a2 _ _ => ?_))
  iterate 2 refine em_next rfl ?_
  exact me_fillsCosts_l (k := 0) (m := P.1) (hS.keep a1) (hS.2.1.row hS.1.1.2.1 a2) (by omega) (fun b hb => by omega) (fun I' f => h I' (a1.Q.tr f))
theorem me_costsOfAll_l (hS : mo_S I lv P X) (hv : ∀ b, b < P.1 → I 319 b = nI (em_csN P X b)) {s k m : Nat} (hs : s < 2 ^ P.1) (hk : k + m = P.1) (h : Q (some (.int (nI (ey_cst P X s)))) (em_SH, I, J, em_RT lw)) : em_wp em_sc0 (d + 1) 238 4 [some (.ref 284), some (.int (nI s)), some (.int (nI (em_sm (fun b => if s.testBit b then em_csN P X b else 0) k))), some (.int (nI k))] [] (em_SH, I, J, em_RT lw) Q := by
  have hn := hS.1.1.2.1
  have hp9 := em_pow9 hn
  induction m generalizing k with
  | zero =>
    have e : k = P.1 := by omega
    subst e
    iterate 2 refine em_next rfl ?_
    refine em_inv_call rfl (me_many hS.1 ?_)
    iterate 1 refine em_next rfl ?_
    refine em_c_ge (fun _ => ?_) (fun h1 => absurd (nI_le (Nat.le_refl _) (by omega)) h1)
    iterate 1 refine em_next rfl ?_
    exact em_done rfl h
  | succ m ih =>
    iterate 2 refine em_next rfl ?_
    refine em_inv_call rfl (me_many hS.1 ?_)
    iterate 1 refine em_next rfl ?_
    refine em_c_ge (fun h1 => absurd h1 (nI_ge (by omega) (by omega))) (fun _ => ?_)
    iterate 6 refine em_next rfl ?_
    show em_wp em_sc0 (d + 1) 238 18 _ [.int 1, .int ((nI s >>> (nI k &&& 31)) &&& 1)] _ _
    rw [em_bitC s (by omega) k (by omega), em_bit_bb]
    have g := ih (k := k + 1) (by omega)
    rw [em_sm, nI_succ] at g
    iterate 1 refine em_next rfl ?_
    cases e : s.testBit k with
    | true =>
      rw [e, if_pos rfl, em_nadd] at g
      refine em_c_ne (fun q => absurd rfl q) (fun _ => ?_)
      iterate 4 refine em_next rfl ?_
      refine em_ialn (k := k) rfl rfl (by omega) (by decide) ?_
      rw [hv k (by omega)]
      iterate 4 refine em_next rfl ?_
      exact g
    | false =>
      rw [e, if_neg (by decide), Nat.add_zero] at g
      refine em_c_ne (fun _ => ?_) (fun q => absurd q (by decide))
      iterate 2 refine em_next rfl ?_
      exact g
theorem me_costsOfAll (hS : mo_S I lv P X) (hv : ∀ b, b < P.1 → I 319 b = nI (em_csN P X b)) {s : Nat} (hs : s < 2 ^ P.1) (h : Q (some (.int (nI (ey_cst P X s)))) (em_SH, I, J, em_RT lw)) : em_call (d + 1) 238 [.ref 284, .int (nI s)] (em_SH, I, J, em_RT lw) Q := by
  iterate 4 refine em_next rfl ?_
  exact me_costsOfAll_l (k := 0) (m := P.1) hS hv hs (by omega) h
theorem em_subI {a b : Nat} (ha : a < 2 ^ 30) (hb : b < 2 ^ 30) : (nI a - nI b).toInt = (a : Int) - b := by
  rw [Int32.toInt_sub, nI_toInt (by omega), nI_toInt (by omega), Int.bmod_eq_of_le] <;> omega
theorem me_cheapest_l (hS : mo_S I lv P X) (hv : ∀ b, b < P.1 → I 319 b = nI (em_csN P X b)) {a : Int32} {n k m : Nat} {o : Option Value} (hnn : n < 25) (hk : k + m = 2 ^ P.1) (h : ∀ I' : Nat → Nat → Int32, em_fQ I I' → (∀ b, b < P.1 → I' 319 b = nI (em_csN P X b)) → Q (some (.int (em_oi (em_chp P X a n (2 ^ P.1))))) (em_SH, I', J, em_RT lw)) : em_wp em_sc0 (d + 8) 239 10 [some (.ref 284), some (.int (a)), some (.int (nI n)), some (.int (em_oi (em_chp P X a n k))), some (.int (nI k)), o] [] (em_SH, I, J, em_RT lw) Q := by
  have hn := hS.1.1.2.1
  have hr := hS.2.1.1.1
  have hp9 := em_pow9 hn
  have hp := Nat.two_pow_pos P.1
  induction m generalizing k I o with
  | zero =>
    have e : k = 2 ^ P.1 := by omega
    subst e
    iterate 2 refine em_next rfl ?_
    refine em_inv_call rfl (me_allBits hS.1 ?_)
    iterate 1 refine em_next rfl ?_
    refine em_c_gt (fun _ => ?_) (fun h1 => absurd (nI_lt (by omega) (by omega)) h1)
    iterate 1 refine em_next rfl ?_
    exact em_done rfl (h I em_fQ.rf hv)
  | succ m ih =>
    iterate 2 refine em_next rfl ?_
    refine em_inv_call rfl (me_allBits hS.1 ?_)
    iterate 1 refine em_next rfl ?_
    refine em_c_gt (fun h1 => absurd h1 (nI_nlt (by omega) (by omega))) (fun _ => ?_)
    have skip : ∀ o1, em_chp P X a n (k + 1) = em_chp P X a n k → em_wp em_sc0 (d + 8) 239 81 [some (.ref 284), some (.int (a)), some (.int (nI n)), some (.int (em_oi (em_chp P X a n k))), some (.int (nI k)), o1] [] (em_SH, I, J, em_RT lw) Q := by
      intro o1 e
      iterate 2 refine em_next rfl ?_
      have g := ih (k := k + 1) (I := I) (o := o1) hS hv (by omega) h
      rw [e, nI_succ] at g
      exact g
    have tryit : ∀ o1, em_chp P X a n (k + 1) = (if em_hit P X a n k then some k else em_chp P X a n k) → em_wp em_sc0 (d + 8) 239 62 [some (.ref 284), some (.int (a)), some (.int (nI n)), some (.int (em_oi (em_chp P X a n k))), some (.int (nI k)), o1] [] (em_SH, I, J, em_RT lw) Q := by
      intro o1 e
      iterate 2 refine em_next rfl ?_
      refine em_inv_call rfl (me_now hS ?_)
      iterate 2 refine em_next rfl ?_
      show em_wp em_sc0 (d + 8) 239 70 _ [.int (nI X.1 ^^^ nI k), .ref 284] _ _
      rw [em_xr]
      iterate 1 refine em_next rfl ?_
      refine em_inv_call rfl (me_R hS (Nat.xor_lt_two_pow hr (by omega)) (by omega) (fun I1 a1 => ?_))
      iterate 2 refine em_next rfl ?_
      have g := ih (k := k + 1) (I := I1) (o := o1) (hS.keep a1) (fun b hb => by rw [a1 _ _ (by decide) (fun q => absurd q.1 (by decide))]; exact hv b hb) (by omega) (fun I' f => h I' (a1.Q.tr f))
      rw [e, nI_succ] at g
      refine em_c_ne (fun q => ?_) (fun q => ?_)
      · rw [if_neg (fun z : em_hit P X a n k = true => q (of_decide_eq_true z))] at g
        iterate 2 refine em_next rfl ?_
        exact g
      · rw [if_pos (show em_hit P X a n k = true from decide_eq_true q)] at g
        iterate 4 refine em_next rfl ?_
        exact g
    iterate 2 refine em_next rfl ?_
    cases e : em_chp P X a n k with
    | none =>
      refine em_z_lt (fun _ => ?_) (fun q => absurd (by decide) q)
      have g := tryit o (by rw [em_chp, e])
      rw [e] at g
      exact g
    | some b =>
      have hb := em_chp_lt e
      have c1 := ey_cst_le hn X k
      have c2 := ey_cst_le hn X b
      have p1 := em_pc_le k
      have p2 := em_pc_le b
      refine em_z_lt (fun q => absurd q (nI_pos (by omega))) (fun _ => ?_)
      iterate 2 refine em_next rfl ?_
      refine em_inv_call rfl (me_costsOfAll hS hv (s := k) (by omega) ?_)
      iterate 2 refine em_next rfl ?_
      refine em_inv_call rfl (me_costsOfAll hS hv (s := b) (by omega) ?_)
      iterate 4 refine em_next rfl ?_
      have es := em_subI (a := ey_cst P X k) (b := ey_cst P X b) (by omega) (by omega)
      refine em_z_gt (fun q => ?_) (fun q => ?_)
      · rw [Int32.lt_iff_toInt_lt, es, show (0 : Int32).toInt = 0 from rfl] at q
        have g := skip (some (.int (nI (ey_cst P X k) - nI (ey_cst P X b)))) (by
          rw [em_chp, e]
          dsimp only
          unfold em_bet
          rw [decide_eq_false (by omega : ¬ ey_cst P X k < ey_cst P X b), decide_eq_false (by omega : ¬ ey_cst P X k = ey_cst P X b)]
          rfl)
        rw [e] at g
        exact g
      · rw [Int32.lt_iff_toInt_lt, es, show (0 : Int32).toInt = 0 from rfl] at q
        iterate 2 refine em_next rfl ?_
        refine em_z_ne (fun q2 => ?_) (fun q2 => ?_)
        · have q3 : ¬ (nI (ey_cst P X k) - nI (ey_cst P X b)).toInt = 0 := fun z => q2 (Int32.toInt_inj.mp z)
          rw [es] at q3
          have g := tryit (some (.int (nI (ey_cst P X k) - nI (ey_cst P X b)))) (by
            rw [em_chp, e]
            dsimp only
            unfold em_bet
            rw [decide_eq_true (by omega : ey_cst P X k < ey_cst P X b), Bool.true_or, Bool.true_and])
          rw [e] at g
          exact g
        · have q3 : (nI (ey_cst P X k) - nI (ey_cst P X b)).toInt = 0 := by rw [show nI (ey_cst P X k) - nI (ey_cst P X b) = 0 from q2]; rfl
          rw [es] at q3
          iterate 1 refine em_next rfl ?_
          refine em_inv_call rfl (me_bits (by omega) ?_)
          iterate 1 refine em_next rfl ?_
          refine em_inv_call rfl (me_bits (by omega) ?_)
          iterate 1 refine em_next rfl ?_
          refine em_c_lt (fun q4 => ?_) (fun q4 => ?_)
          · have q5 : em_pc k < em_pc b := (nI_ltI (by omega) (by omega)).mp q4
            have g := tryit (some (.int (nI (ey_cst P X k) - nI (ey_cst P X b)))) (by
              rw [em_chp, e]
              dsimp only
              unfold em_bet
              rw [decide_eq_false (by omega : ¬ ey_cst P X k < ey_cst P X b), decide_eq_true (by omega : ey_cst P X k = ey_cst P X b), decide_eq_true q5]
              rfl)
            rw [e] at g
            exact g
          · have q5 : ¬ em_pc k < em_pc b := fun z => q4 ((nI_ltI (by omega) (by omega)).mpr z)
            have g := skip (some (.int (nI (ey_cst P X k) - nI (ey_cst P X b)))) (by
              rw [em_chp, e]
              dsimp only
              unfold em_bet
              rw [decide_eq_false (by omega : ¬ ey_cst P X k < ey_cst P X b), decide_eq_false q5, Bool.and_false]
              rfl)
            rw [e] at g
            iterate 1 refine em_next rfl ?_
            exact g
theorem me_cheapest (hS : mo_S I lv P X) {a : Int32} {n : Nat} (hnn : n < 25) (h : ∀ I' : Nat → Nat → Int32, em_fQ I I' → (∀ b, b < P.1 → I' 319 b = nI (em_csN P X b)) → Q (some (.int (em_oi (em_chp P X a n (2 ^ P.1))))) (em_SH, I', J, em_RT lw)) : em_call (d + 8) 239 [.ref 284, .int a, .int (nI n)] (em_SH, I, J, em_RT lw) Q := by
  iterate 1 refine em_next rfl ?_
  refine em_inv_call rfl (me_fillsCosts hS (fun I1 a1 a2 => ?_))
  iterate 4 refine em_next rfl ?_
  exact me_cheapest_l (k := 0) (m := 2 ^ P.1) (hS.keepQ a1) a2 hnn (by omega) (fun I' f => h I' (a1.tr f))
theorem mq_turned (hS : mo_S I lv P X) {n w : Int32} (h : ∀ I' : Nat → Nat → Int32, em_fQ I I' → Q (some (.int (sp_turned P X n w))) (em_SH, I', J, em_RT lw)) : em_call (d + 9) 240 [.ref 284, .int n, .int w] (em_SH, I, J, em_RT lw) Q := by
  have hp9 := em_pow9 hS.1.1.2.1
  unfold sp_turned at h
  iterate 1 refine em_next rfl ?_
  refine em_inv_call rfl (me_isShort ?_)
  iterate 1 refine em_next rfl ?_
  refine em_b_eq (fun g => ?_) (fun g => ?_)
  · rw [if_neg (fun q => g q.1)] at h
    iterate 1 refine em_next rfl ?_
    exact em_done rfl (h I em_fQ.rf)
  iterate 3 refine em_next rfl ?_
  refine em_inv_call rfl (me_inQ (a := 0) (b := 1) ?_)
  iterate 1 refine em_next rfl ?_
  refine em_b_ne (fun g2 => ?_) (fun g2 => ?_)
  · rw [if_pos ⟨g, g2⟩] at h
    obtain ⟨m, hm, rfl, em⟩ := em_nat (m := 24) (by decide) g.1 g.2
    rw [em] at h
    iterate 2 refine em_next rfl ?_
    refine em_inv_call rfl (me_allBits hS.1 ?_)
    iterate 1 refine em_next rfl ?_
    refine em_inv_call rfl (me_cheapest hS (n := m) (by omega) (fun I1 a1 a2 => ?_))
    have gg := h I1 a1
    iterate 3 refine em_next rfl ?_
    cases e : em_chp P X (nI (2 ^ P.1 - 1)) m (2 ^ P.1) with
    | none =>
      rw [e] at gg
      refine em_z_lt (fun _ => ?_) (fun q => absurd (by decide) q)
      iterate 2 refine em_next rfl ?_
      exact em_done rfl gg
    | some s =>
      rw [e] at gg
      have hs := em_chp_lt e
      refine em_z_lt (fun q => absurd q (nI_pos (by omega))) (fun _ => ?_)
      iterate 3 refine em_next rfl ?_
      dsimp only at gg
      refine em_c_ne (fun q => ?_) (fun q => ?_)
      · rw [if_neg (show ¬ w = 1 from q)] at gg
        iterate 2 refine em_next rfl ?_
        refine em_inv_call rfl (me_costsOfAll (hS.keepQ a1) a2 (s := s) hs ?_)
        exact em_done rfl gg
      · rw [if_pos (show w = 1 from q)] at gg
        iterate 2 refine em_next rfl ?_
        exact em_done rfl gg
  · rw [if_neg (fun q => g2 q.2)] at h
    iterate 1 refine em_next rfl ?_
    exact em_done rfl (h I em_fQ.rf)
theorem mq_turnTo (hS : mo_S I lv P X) {a n : Int32} (h : ∀ I' : Nat → Nat → Int32, em_fQ I I' → Q (some (.int (sp_turnTo P X a n))) (em_SH, I', J, em_RT lw)) : em_call (d + 9) 241 [.ref 284, .int a, .int n] (em_SH, I, J, em_RT lw) Q := by
  have hp9 := em_pow9 hS.1.1.2.1
  unfold sp_turnTo at h
  iterate 2 refine em_next rfl ?_
  refine em_inv_call rfl (me_rowQ hS ?_)
  iterate 1 refine em_next rfl ?_
  refine em_b_eq (fun g => ?_) (fun g => ?_)
  · rw [if_neg (fun q => g q.1)] at h
    iterate 1 refine em_next rfl ?_
    exact em_done rfl (h I em_fQ.rf)
  iterate 1 refine em_next rfl ?_
  refine em_inv_call rfl (me_isShort ?_)
  iterate 1 refine em_next rfl ?_
  refine em_b_ne (fun g2 => ?_) (fun g2 => ?_)
  · rw [if_pos ⟨g, g2⟩] at h
    obtain ⟨m, hm, rfl, em⟩ := em_nat (m := 24) (by decide) g2.1 g2.2
    rw [em] at h
    iterate 3 refine em_next rfl ?_
    refine em_inv_call rfl (me_cheapest hS (n := m) (by omega) (fun I1 a1 a2 => ?_))
    have gg := h I1 a1
    iterate 3 refine em_next rfl ?_
    cases e : em_chp P X a m (2 ^ P.1) with
    | none =>
      rw [e] at gg
      refine em_z_ge (fun q => absurd q (by decide)) (fun _ => ?_)
      iterate 2 refine em_next rfl ?_
      exact em_done rfl gg
    | some s =>
      rw [e] at gg
      have hs := em_chp_lt e
      refine em_z_ge (fun _ => ?_) (fun q => absurd (nI_pos' (by omega)) q)
      iterate 2 refine em_next rfl ?_
      refine em_inv_call rfl (me_costsOfAll (hS.keepQ a1) a2 (s := s) hs ?_)
      exact em_done rfl gg
  · rw [if_neg (fun q => g2 q.2)] at h
    iterate 1 refine em_next rfl ?_
    exact em_done rfl (h I em_fQ.rf)
end MQ7

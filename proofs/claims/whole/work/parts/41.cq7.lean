/-! the class: its questions, six: runs, sets turned, rounds -/
theorem em_mulb {s k c : Nat} {a : Int32} (ea : a = nI s) (hs : s < 512) (hk : k < 9) : ((a >>> (nI k &&& 31)) &&& 1) * nI c = nI (if s.testBit k then c else 0) := by
  rw [ea, em_bitC s hs k hk]
  unfold em_bit
  split
  · exact Int32.one_mul _
  · exact Int32.zero_mul
theorem em_sm_one {f : Nat → Nat} {k n : Nat} (hk : k < n) : em_sm (fun b => if (2 ^ k).testBit b then f b else 0) n = f k := by
  have h0 : ∀ m, m ≤ k → em_sm (fun b => if (2 ^ k).testBit b then f b else 0) m = 0 := fun m hm => by
    induction m with
    | zero => rfl
    | succ m ih =>
      rw [em_sm, ih (by omega), Nat.testBit_two_pow_of_ne (by omega)]
      rfl
  induction n with
  | zero => omega
  | succ n ih =>
    rw [em_sm]
    by_cases e : k = n
    · subst e
      rw [h0 k (Nat.le_refl _), Nat.testBit_two_pow_self, if_pos rfl, Nat.zero_add]
    · rw [ih (by omega), Nat.testBit_two_pow_of_ne e]
      rfl
section CQ7
variable {d lw : Nat} {P : em_Pl} {X Y : em_Nt} {lp : Bool} {part : Nat → Int32} {I I0 : Nat → Nat → Int32} {J : Nat → Nat → Int64} {M : em_M} {Q : Option Value → em_M → Prop} {v : List Int32} {sd : Int32}
theorem em_modn {b l n : Nat} (hb : b < n) (hl : l < n) : (b + l) % n = if b + l < n then b + l else b + l - n := by
  split
  · rename_i h; exact Nat.mod_eq_of_lt h
  · rename_i h
    rw [Nat.mod_eq_sub_mod (by omega), Nat.mod_eq_of_lt (by omega)]
theorem ce_runFrom_l (hS : cl_S I lp P X) {a : Int32} {b l m : Nat} (ea : a = nI X.1) (hb : b < P.1) (hk : l + m = P.1) (h : Q (some (.int (nI (em_rl P.1 P.2.1 X.1 b l m)))) (em_SH, I, J, em_RT lw)) : em_wp em_sc0 d 55 14 [some (.ref 24), some (.int (a)), some (.int (nI b)), some (.int (em_bit X.1 b)), some (.int (nI l)), some (.int (nI (b + l)))] [] (em_SH, I, J, em_RT lw) Q := by
  have hn := hS.1.1.1
  have hr := hS.2.1.1.1
  have hp9 := em_pow9 hn
  induction m generalizing l with
  | zero =>
    have e : l = P.1 := by omega
    subst e
    iterate 4 refine em_next rfl ?_
    refine em_c_geE rfl hS.mn (fun _ => ?_) (fun h1 => absurd (nI_le (Nat.le_refl _) (by omega)) h1)
    iterate 1 refine em_next rfl ?_
    exact em_done rfl h
  | succ m ih =>
    rw [em_rl] at h
    have en : ∀ z : Bool, (P.2.1 || decide (b + l < P.1)) = true → (X.1.testBit ((b + l) % P.1) == X.1.testBit b) = z → Q (some (.int (nI (if z then em_rl P.1 P.2.1 X.1 b (l + 1) m else l)))) (em_SH, I, J, em_RT lw) := fun z h1 h2 => by
      rw [h1, Bool.true_and, h2] at h
      exact h
    have gq : (P.2.1 || decide (b + l < P.1)) = true → em_wp em_sc0 d 55 39 [some (.ref 24), some (.int (a)), some (.int (nI b)), some (.int (em_bit X.1 b)), some (.int (nI l)), some (.int (nI (b + l)))] [] (em_SH, I, J, em_RT lw) Q := fun hc => by
      have hm := em_modn (b := b) (l := l) (n := P.1) hb (by omega)
      have fin : ∀ j : Nat, (b + l) % P.1 = j → em_wp em_sc0 d 55 65 [some (.ref 24), some (.int (a)), some (.int (nI b)), some (.int (em_bit X.1 b)), some (.int (nI l)), some (.int (nI (b + l)))] [.int (em_bit X.1 b), .int ((a >>> (nI j &&& 31)) &&& 1)] (em_SH, I, J, em_RT lw) Q := fun j hj => by
        have hj9 : j < P.1 := by rw [← hj]; exact Nat.mod_lt _ (by omega)
        have eb : (a >>> (nI j &&& 31)) &&& 1 = em_bit X.1 j := by rw [ea]; exact em_bitC X.1 (by omega) j (by omega)
        iterate 1 refine em_next rfl ?_
        refine em_c_eqE eb rfl (fun q => ?_) (fun q => ?_)
        · have g := en true hc (by rw [hj]; exact beq_iff_eq.mpr (em_bit_eq.mp q))
          rw [if_pos rfl] at g
          have g2 := ih (l := l + 1) (by omega) g
          rw [nI_succ, show b + (l + 1) = (b + l) + 1 by omega, nI_succ] at g2
          iterate 3 refine em_next rfl ?_
          exact g2
        · have g := en false hc (by rw [hj]; exact beq_eq_false_iff_ne.mpr (fun e => q (em_bit_eq.mpr e)))
          rw [if_neg (by decide)] at g
          iterate 2 refine em_next rfl ?_
          exact em_done rfl g
      iterate 5 refine em_next rfl ?_
      refine em_c_geE rfl hS.mn (fun q => ?_) (fun q => ?_)
      · have q2 := (nI_leI (by omega) (by omega)).mp q
        rw [if_neg (by omega)] at hm
        have g := fin _ hm
        iterate 4 refine em_next rfl ?_
        refine em_tp (y := nI (b + l - P.1)) ?_ ?_
        · show nI (b + l) - I 24 7 = _
          rw [hS.mn]
          have e := em_nadd (b + l - P.1) P.1
          rw [Nat.sub_add_cancel q2] at e
          rw [e, Int32.add_sub_cancel]
        iterate 4 refine em_next rfl ?_
        exact g
      · have q2 := Nat.not_le.mp (fun z => q ((nI_leI (by omega) (by omega)).mpr z))
        rw [if_pos q2] at hm
        have g := fin _ hm
        iterate 6 refine em_next rfl ?_
        exact g
    iterate 4 refine em_next rfl ?_
    refine em_c_geE rfl hS.mn (fun h1 => absurd h1 (nI_ge (by omega) (by omega))) (fun _ => ?_)
    iterate 3 refine em_next rfl ?_
    refine em_z_neE hS.1.1.2.2 (fun q => ?_) (fun q => ?_)
    · have q1 : P.2.1 = true := by
        cases e : P.2.1
        · rw [e] at q; exact absurd rfl q
        · rfl
      exact gq (by rw [q1]; rfl)
    · have q1 : P.2.1 = false := by
        cases e : P.2.1
        · rfl
        · rw [e] at q; exact absurd q (by decide)
      iterate 4 refine em_next rfl ?_
      refine em_c_geE rfl hS.mn (fun q => ?_) (fun q => ?_)
      · have q2 := (nI_leI (by omega) (by omega)).mp q
        rw [q1, decide_eq_false (by omega)] at h
        iterate 1 refine em_next rfl ?_
        exact em_done rfl h
      · have q2 := Nat.not_le.mp (fun z => q ((nI_leI (by omega) (by omega)).mpr z))
        exact gq (by rw [q1, decide_eq_true q2]; rfl)
theorem ce_runFrom (hS : cl_S I lp P X) {a : Int32} {b : Nat} (ea : a = nI X.1) (hb : b < P.1) (h : Q (some (.int (nI (em_run1 P X b)))) (em_SH, I, J, em_RT lw)) : em_call d 55 [.ref 24, .int a, .int (nI b)] (em_SH, I, J, em_RT lw) Q := by
  have hn := hS.1.1.1
  have hr := hS.2.1.1.1
  have hp9 := em_pow9 hn
  have e1 : em_run1 P X b = em_rl P.1 P.2.1 X.1 b 1 (P.1 - 1) := by
    unfold em_run1
    obtain ⟨m, hm⟩ : ∃ m, P.1 = m + 1 := ⟨P.1 - 1, by omega⟩
    rw [hm] at hb ⊢
    rw [em_rl, Nat.add_zero, Nat.mod_eq_of_lt hb, decide_eq_true hb, Bool.or_true, beq_self_eq_true]
    rfl
  rw [e1] at h
  have eb : (a >>> (nI b &&& 31)) &&& 1 = em_bit X.1 b := by rw [ea]; exact em_bitC X.1 (by omega) b (by omega)
  iterate 5 refine em_next rfl ?_
  refine em_tp eb ?_
  iterate 7 refine em_next rfl ?_
  have g := ce_runFrom_l (d := d) (l := 1) (m := P.1 - 1) hS ea hb (by omega) h
  rw [show nI (b + 1) = nI b + 1 from nI_succ b] at g
  exact g
theorem ce_run_l (hS : cl_S I lp P X) {w : Int32} {k m : Nat} {o : Option Value} (hk : k + m = P.1) (h : Q (some (.int (if w = 0 then em_x0 (em_run1 P X) (em_xi (em_run1 P X) P.1) else em_oi (em_xi (em_run1 P X) P.1)))) (em_SH, I, J, em_RT lw)) : em_wp em_sc0 (d + 1) 141 17 [some (.ref 1), some (.int (w)), some (.int (em_x0 (em_run1 P X) (em_xi (em_run1 P X) k))), some (.int (em_oi (em_xi (em_run1 P X) k))), some (.int (nI k)), o] [] (em_SH, I, J, em_RT lw) Q := by
  have hn := hS.1.1.1
  induction m generalizing k o with
  | zero =>
    have e : k = P.1 := by omega
    subst e
    iterate 5 refine em_next rfl ?_
    refine em_c_geE rfl hS.mn (fun _ => ?_) (fun h1 => absurd (nI_le (Nat.le_refl _) (by omega)) h1)
    iterate 2 refine em_next rfl ?_
    refine em_z_ne (fun z => ?_) (fun z => ?_)
    · rw [if_neg z] at h
      iterate 1 refine em_next rfl ?_
      exact em_done rfl h
    · rw [if_pos z] at h
      iterate 2 refine em_next rfl ?_
      exact em_done rfl h
  | succ m ih =>
    have r1 := em_run1_le P X k
    have r2 := em_run1_pos (P := P) (X := X) (b := k) (by omega)
    iterate 5 refine em_next rfl ?_
    refine em_c_geE rfl hS.mn (fun h1 => absurd h1 (nI_ge (by omega) (by omega))) (fun _ => ?_)
    iterate 6 refine em_next rfl ?_
    refine em_inv_call rfl (ce_runFrom hS hS.rw (by omega) ?_)
    iterate 4 refine em_next rfl ?_
    have g := ih (k := k + 1) (o := some (.int (nI (em_run1 P X k)))) (by omega)
    rw [em_xi, nI_succ] at g
    cases e : em_xi (em_run1 P X) k with
    | none =>
      rw [e] at g
      refine em_c_leE (x' := nI (em_run1 P X k)) rfl (y' := nI 0) rfl (fun q => absurd ((nI_leI (by omega) (by decide)).mp q) (by omega)) (fun _ => ?_)
      iterate 6 refine em_next rfl ?_
      exact g
    | some b =>
      rw [e] at g
      dsimp only at g
      have r3 := em_run1_le P X b
      refine em_c_leE (x' := nI (em_run1 P X k)) rfl (y' := nI (em_run1 P X b)) rfl (fun q => ?_) (fun q => ?_)
      · rw [if_neg (Nat.not_lt.mpr ((nI_leI (by omega) (by omega)).mp q))] at g
        iterate 2 refine em_next rfl ?_
        exact g
      · rw [if_pos (Nat.not_le.mp (fun z => q ((nI_leI (by omega) (by omega)).mpr z)))] at g
        iterate 6 refine em_next rfl ?_
        exact g
theorem cq_run (hS : cl_S I lp P X) {w : Int32} (h : Q (some (.int (sp_run P X w))) (em_SH, I, J, em_RT lw)) : em_call (d + 4) 141 [.ref 1, .int w] (em_SH, I, J, em_RT lw) Q := by
  unfold sp_run at h
  iterate 1 refine em_next rfl ?_
  refine em_inv_call rfl (ce_pair ?_)
  iterate 1 refine em_next rfl ?_
  refine em_b_ne (fun g => ?_) (fun g => ?_)
  · rw [if_pos g] at h
    iterate 6 refine em_next rfl ?_
    refine ce_run_l (d := d + 3) (k := 0) (m := P.1) hS (by omega) ?_
    by_cases z : w = 0
    · rw [if_pos z] at h ⊢
      cases e : em_xi (em_run1 P X) P.1 with
      | none => rw [e] at h; exact h
      | some b => rw [e] at h; exact h
    · rw [if_neg z] at h ⊢
      exact h
  · rw [if_neg g] at h
    iterate 1 refine em_next rfl ?_
    exact em_done rfl h
theorem ce_costs_l (hS : cl_S I lp P X) {a n : Int32} {k m : Nat} {o : Option Value} (hk : k + m = P.1) (h0 : ∀ b, b < k → I 278 b = nI (em_csN P X b)) (h : ∀ I' : Nat → Nat → Int32, em_fW I I' → cl_S I' lp P X → (∀ b, b < P.1 → I' 278 b = nI (em_csN P X b)) → em_wp em_sc0 (d + 5) 105 39 [some (.ref 277), some (.int (a)), some (.int (n)), some (.int (nI P.1)), o] [] (em_SH, I', J, em_RT lw) Q) : em_wp em_sc0 (d + 5) 105 2 [some (.ref 277), some (.int (a)), some (.int (n)), some (.int (nI k)), o] [] (em_SH, I, J, em_RT lw) Q := by
  have hn := hS.1.1.1
  induction m generalizing k I with
  | zero =>
    have e : k = P.1 := by omega
    subst e
    iterate 5 refine em_next rfl ?_
    refine em_c_geE rfl hS.mn (fun _ => ?_) (fun h1 => absurd (nI_le (Nat.le_refl _) (by omega)) h1)
    exact h I em_fW.rf hS h0
  | succ m ih =>
    iterate 5 refine em_next rfl ?_
    refine em_c_geE rfl hS.mn (fun h1 => absurd h1 (nI_ge (by omega) (by omega))) (fun _ => ?_)
    iterate 10 refine em_next rfl ?_
    refine em_inv_call rfl (ce_cost_now hS.1 hS.2.1 (em_one1 k (by omega)) (Nat.pow_lt_pow_right (by decide) (by omega)) (fun I1 a1 => ?_))
    rw [em_sm_one (by omega)]
    refine em_iasn rfl rfl (by omega) (by decide) ?_
    iterate 2 refine em_next rfl ?_
    have hr1 : ∀ c, c ≠ 278 → em_u I1 278 k (nI (em_csN P X k)) c = I1 c := fun c hc => em_u_row hc
    have g := ih (k := k + 1) (I := em_u I1 278 k (nI (em_csN P X k))) ((hS.kK a1).row (a := 278) (by decide) hr1) (by omega) (fun b hb => by
      by_cases q : b = k
      · subst q
        exact em_u_self
      · rw [em_u_ne q, a1 _ (by decide)]
        exact h0 b (by omega)) (fun I' f s => h I' ((a1.C.W.tr (em_fW.row (a := 278) (by decide) hr1)).tr f) s)
    rw [nI_succ] at g
    exact g
theorem ce_costOf_l (hS : cl_S I lp P X) (hv : ∀ b, b < P.1 → I 278 b = nI (em_csN P X b)) {s k m : Nat} (hs : s < 2 ^ P.1) (hk : k + m = P.1) (h : Q (some (.int (nI (ey_cst P X s)))) (em_SH, I, J, em_RT lw)) : em_wp em_sc0 d 106 4 [some (.ref 277), some (.int (nI s)), some (.int (nI (em_sm (fun b => if s.testBit b then em_csN P X b else 0) k))), some (.int (nI k))] [] (em_SH, I, J, em_RT lw) Q := by
  have hn := hS.1.1.1
  have hp9 := em_pow9 hn
  induction m generalizing k with
  | zero =>
    have e : k = P.1 := by omega
    subst e
    iterate 5 refine em_next rfl ?_
    refine em_c_geE rfl hS.mn (fun _ => ?_) (fun h1 => absurd (nI_le (Nat.le_refl _) (by omega)) h1)
    iterate 1 refine em_next rfl ?_
    exact em_done rfl h
  | succ m ih =>
    have g := ih (k := k + 1) (by omega)
    rw [em_sm, nI_succ] at g
    iterate 5 refine em_next rfl ?_
    refine em_c_geE rfl hS.mn (fun h1 => absurd h1 (nI_ge (by omega) (by omega))) (fun _ => ?_)
    iterate 9 refine em_next rfl ?_
    refine em_ialn rfl rfl (by omega) (by decide) ?_
    refine em_tp (hv k (by omega)) ?_
    iterate 1 refine em_next rfl ?_
    refine em_tp (em_mulb rfl (by omega) (by omega)) ?_
    iterate 1 refine em_next rfl ?_
    refine em_tp (em_addN rfl rfl) ?_
    iterate 3 refine em_next rfl ?_
    exact g
theorem ce_costOf (hS : cl_S I lp P X) (hv : ∀ b, b < P.1 → I 278 b = nI (em_csN P X b)) {s : Nat} (hs : s < 2 ^ P.1) (h : Q (some (.int (nI (ey_cst P X s)))) (em_SH, I, J, em_RT lw)) : em_call d 106 [.ref 277, .int (nI s)] (em_SH, I, J, em_RT lw) Q := by
  iterate 4 refine em_next rfl ?_
  exact ce_costOf_l (k := 0) (m := P.1) hS hv hs (by omega) h
def ec_less (P : em_Pl) (X : em_Nt) (k : Nat) : Option Nat → Bool
  | none => true
  | some b => em_bet P X k b
def ec_ls : Option Nat → Int32 := ec_who
def ec_lc (P : em_Pl) (X : em_Nt) (x : Int32) : Option Nat → Int32
  | none => x
  | some b => nI (ey_cst P X b)
theorem ec_no3b : ∀ b, b < 512 → ¬ nI b = -3 := by decide +kernel
theorem ce_isLess {o : Option Nat} {s : Nat} (hn : P.1 ≤ 9) (hs : s < 2 ^ P.1) (ho : ∀ b, o = some b → b < 2 ^ P.1) (h1 : I 277 5 = ec_who o) (h2 : ∀ b, o = some b → I 277 4 = nI (ey_cst P X b)) (h : Q (some (.int (em_bb (ec_less P X s o)))) (em_SH, I, J, em_RT lw)) : em_call (d + 1) 107 [.ref 277, .int (nI s), .int (nI (ey_cst P X s))] (em_SH, I, J, em_RT lw) Q := by
  have hp9 := em_pow9 hn
  have c1 := ey_cst_le hn X s
  iterate 4 refine em_next rfl ?_
  cases o with
  | none =>
    refine em_c_eqE h1 rfl (fun _ => ?_) (fun q => absurd rfl q)
    iterate 1 refine em_next rfl ?_
    exact em_done rfl h
  | some b =>
    have hb := ho b rfl
    have c2 := ey_cst_le hn X b
    unfold ec_less em_bet at h
    dsimp only at h
    refine em_c_eqE h1 rfl (fun q => absurd q (ec_no3b b (by omega))) (fun _ => ?_)
    iterate 4 refine em_next rfl ?_
    refine em_c_geE rfl (h2 b rfl) (fun q => ?_) (fun q => ?_)
    · have q2 := (nI_leI (by omega) (by omega)).mp q
      rw [decide_eq_false (by omega), Bool.false_or] at h
      iterate 4 refine em_next rfl ?_
      refine em_c_neE rfl (h2 b rfl) (fun q => ?_) (fun q => ?_)
      · rw [decide_eq_false (fun e => q (by rw [e])), Bool.false_and] at h
        iterate 1 refine em_next rfl ?_
        exact em_done rfl h
      · rw [decide_eq_true ((nI_eq (by omega) (by omega)).mp q), Bool.true_and] at h
        iterate 1 refine em_next rfl ?_
        refine em_inv_call rfl (ce_bits rfl (by omega) ?_)
        iterate 2 refine em_next rfl ?_
        refine em_inv_call rfl (ce_bits h1 (by omega) ?_)
        have p1 := em_pc_le s
        have p2 := em_pc_le b
        iterate 1 refine em_next rfl ?_
        refine em_c_ge (fun q => ?_) (fun q => ?_)
        · have q2 := (nI_leI (by omega) (by omega)).mp q
          rw [decide_eq_false (by omega)] at h
          iterate 1 refine em_next rfl ?_
          exact em_done rfl h
        · rw [decide_eq_true (Nat.not_le.mp (fun z => q ((nI_leI (by omega) (by omega)).mpr z)))] at h
          iterate 2 refine em_next rfl ?_
          exact em_done rfl h
    · rw [decide_eq_true (Nat.not_le.mp (fun z => q ((nI_leI (by omega) (by omega)).mpr z))), Bool.true_or] at h
      iterate 1 refine em_next rfl ?_
      exact em_done rfl h
theorem ce_cheap_l (hS : cl_S I lp P X) (hv : ∀ b, b < P.1 → I 278 b = nI (em_csN P X b)) {a : Int32} {n k m : Nat} {o : Option Value} (hnn : n < 25) (hk : k + m = 2 ^ P.1) (h1 : I 277 5 = ec_who (em_chp P X a n k)) (h2 : ∀ b, em_chp P X a n k = some b → I 277 4 = nI (ey_cst P X b)) (h : ∀ I' : Nat → Nat → Int32, em_fW I I' → cl_S I' lp P X → I' 277 5 = ec_who (em_chp P X a n (2 ^ P.1)) → (∀ b, em_chp P X a n (2 ^ P.1) = some b → I' 277 4 = nI (ey_cst P X b)) → Q (some (.int (em_bb (em_chp P X a n (2 ^ P.1)).isSome))) (em_SH, I', J, em_RT lw)) : em_wp em_sc0 (d + 5) 105 47 [some (.ref 277), some (.int (a)), some (.int (nI n)), some (.int (nI k)), o] [] (em_SH, I, J, em_RT lw) Q := by
  have hn := hS.1.1.1
  have hr := hS.2.1.1.1
  have hp9 := em_pow9 hn
  have hp := Nat.two_pow_pos P.1
  induction m generalizing k I o with
  | zero =>
    have e : k = 2 ^ P.1 := by omega
    subst e
    iterate 3 refine em_next rfl ?_
    refine em_inv_call rfl (ce_allLeft hS.1 ?_)
    iterate 1 refine em_next rfl ?_
    refine em_c_gt (fun _ => ?_) (fun h1 => absurd (nI_lt (by omega) (by omega)) h1)
    have g := h I em_fW.rf hS h1 h2
    iterate 4 refine em_next rfl ?_
    cases e : em_chp P X a n (2 ^ P.1) with
    | none =>
      rw [e] at g h1
      refine em_c_eqE h1 rfl (fun _ => ?_) (fun q => absurd rfl q)
      iterate 1 refine em_next rfl ?_
      exact em_done rfl g
    | some b =>
      rw [e] at g h1
      have hb := em_chp_lt e
      refine em_c_eqE h1 rfl (fun q => absurd q (ec_no3b b (by omega))) (fun _ => ?_)
      iterate 2 refine em_next rfl ?_
      exact em_done rfl g
  | succ m ih =>
    have en : em_chp P X a n (k + 1) = match em_chp P X a n k with
      | none => if em_hit P X a n k then some k else none
      | some b => if em_bet P X k b && em_hit P X a n k then some k else some b := rfl
    have ep : ec_less P X k (em_chp P X a n k) = true → em_hit P X a n k = true → em_chp P X a n (k + 1) = some k := fun z1 z2 => by
      rw [en]
      cases hq : em_chp P X a n k with
      | none => exact if_pos z2
      | some b =>
        rw [hq] at z1
        have z3 : em_bet P X k b = true := z1
        exact if_pos (by rw [z2, z3]; rfl)
    have en1 : ec_less P X k (em_chp P X a n k) = false → em_chp P X a n (k + 1) = em_chp P X a n k := fun z1 => by
      rw [en]
      cases hq : em_chp P X a n k with
      | none => rw [hq] at z1; cases z1
      | some b =>
        rw [hq] at z1
        have z3 : em_bet P X k b = false := z1
        exact if_neg (by rw [z3, Bool.false_and]; decide)
    have en3 : em_hit P X a n k = false → em_chp P X a n (k + 1) = em_chp P X a n k := fun z2 => by
      rw [en]
      cases hq : em_chp P X a n k with
      | none => exact if_neg (by rw [z2]; decide)
      | some b => exact if_neg (by rw [z2, Bool.and_false]; decide)
    iterate 3 refine em_next rfl ?_
    refine em_inv_call rfl (ce_allLeft hS.1 ?_)
    iterate 1 refine em_next rfl ?_
    refine em_c_gt (fun h1 => absurd h1 (nI_nlt (by omega) (by omega))) (fun _ => ?_)
    iterate 2 refine em_next rfl ?_
    refine em_inv_call rfl (ce_costOf hS hv (by omega) ?_)
    iterate 4 refine em_next rfl ?_
    refine em_inv_call rfl (ce_isLess (P := P) (X := X) hn (by omega) (fun b e => by have := em_chp_lt e; omega) h1 h2 ?_)
    iterate 1 refine em_next rfl ?_
    cases hl : ec_less P X k (em_chp P X a n k) with
    | false =>
      refine em_z_eq (fun _ => ?_) (fun q => absurd rfl q)
      have g := ih (k := k + 1) (I := I) (o := some (.int (nI (ey_cst P X k)))) hS hv (by omega) (by rw [en1 hl]; exact h1) (by rw [en1 hl]; exact h2) h
      rw [nI_succ] at g
      iterate 2 refine em_next rfl ?_
      exact g
    | true =>
      refine em_z_eq (fun q => absurd q (by decide)) (fun _ => ?_)
      iterate 8 refine em_next rfl ?_
      refine em_inv_call rfl (ce_Ra hS (em_xrE hS.rw rfl) (Nat.xor_lt_two_pow hr (by omega)) (by omega) (fun I1 a1 a2 => ?_))
      iterate 2 refine em_next rfl ?_
      refine em_c_ne (fun q => ?_) (fun q => ?_)
      · have z := en3 (decide_eq_false q)
        have g := ih (k := k + 1) (I := I1) (o := some (.int (nI (ey_cst P X k)))) a2 (fun b hb => by rw [a1 _ (by decide)]; exact hv b hb) (by omega) (by rw [z, a1 _ (by decide)]; exact h1) (by rw [z, a1 _ (by decide)]; exact h2) (fun I' f => h I' (a1.W.tr f))
        rw [nI_succ] at g
        iterate 2 refine em_next rfl ?_
        exact g
      · have z := ep hl (decide_eq_true q)
        iterate 6 refine em_next rfl ?_
        show em_wp em_sc0 (d + 5) 105 _ _ _ (em_SH, em_u (em_u I1 277 5 (nI k)) 277 4 (nI (ey_cst P X k)), J, em_RT lw) Q
        have hr1 : ∀ c, c ≠ 277 → em_u (em_u I1 277 5 (nI k)) 277 4 (nI (ey_cst P X k)) c = I1 c := fun c hc => by rw [em_u_row hc, em_u_row hc]
        have g := ih (k := k + 1) (I := em_u (em_u I1 277 5 (nI k)) 277 4 (nI (ey_cst P X k))) (o := some (.int (nI (ey_cst P X k)))) (a2.row (a := 277) (by decide) hr1) (fun b hb => by rw [hr1 _ (by decide), a1 _ (by decide)]; exact hv b hb) (by omega) (by rw [z, em_u_ne (by decide), em_u_self]; rfl) (fun b e => by rw [z] at e; cases e; exact em_u_self) (fun I' f => h I' ((a1.W.tr (em_fW.row (a := 277) (by decide) hr1)).tr f))
        rw [nI_succ] at g
        iterate 2 refine em_next rfl ?_
        exact g
theorem ce_findCheapest (hS : cl_S I lp P X) {a : Int32} {n : Nat} (hnn : n < 25) (h : ∀ I' : Nat → Nat → Int32, em_fW I I' → cl_S I' lp P X → I' 277 5 = ec_who (em_chp P X a n (2 ^ P.1)) → (∀ b, em_chp P X a n (2 ^ P.1) = some b → I' 277 4 = nI (ey_cst P X b)) → Q (some (.int (em_bb (em_chp P X a n (2 ^ P.1)).isSome))) (em_SH, I', J, em_RT lw)) : em_call (d + 5) 105 [.ref 277, .int a, .int (nI n)] (em_SH, I, J, em_RT lw) Q := by
  iterate 2 refine em_next rfl ?_
  refine ce_costs_l (k := 0) (m := P.1) hS (by omega) (fun b hb => absurd hb (Nat.not_lt_zero _)) (fun I1 a1 a2 a3 => ?_)
  iterate 5 refine em_next rfl ?_
  show em_wp em_sc0 (d + 5) 105 _ _ _ (em_SH, em_u I1 277 5 (-3), J, em_RT lw) Q
  have hr1 : ∀ c, c ≠ 277 → em_u I1 277 5 (-3) c = I1 c := fun c hc => em_u_row hc
  exact ce_cheap_l (k := 0) (m := 2 ^ P.1) (o := none) (a2.row (a := 277) (by decide) hr1) (fun b hb => by rw [hr1 _ (by decide)]; exact a3 b hb) hnn (by omega) em_u_self (fun b e => by cases e) (fun I' f => h I' ((a1.tr (em_fW.row (a := 277) (by decide) hr1)).tr f))
theorem cq_turned (hS : cl_S I lp P X) {n w : Int32} (h : ∀ I' : Nat → Nat → Int32, em_fW I I' → cl_S I' lp P X → Q (some (.int (sp_turned P X n w))) (em_SH, I', J, em_RT lw)) : em_call (d + 9) 133 [.ref 1, .int n, .int w] (em_SH, I, J, em_RT lw) Q := by
  have hn := hS.1.1.1
  unfold sp_turned at h
  iterate 3 refine em_next rfl ?_
  refine em_inv_call rfl (ce_within (a := 0) (b := 24) ?_)
  iterate 1 refine em_next rfl ?_
  refine em_b_eq (fun g => ?_) (fun g => ?_)
  · rw [if_neg (fun q => g q.1)] at h
    iterate 1 refine em_next rfl ?_
    exact em_done rfl (h I em_fW.rf hS)
  iterate 1 refine em_next rfl ?_
  refine em_inv_call rfl (ce_pair ?_)
  iterate 1 refine em_next rfl ?_
  refine em_b_ne (fun g2 => ?_) (fun g2 => ?_)
  · rw [if_pos ⟨g, g2⟩] at h
    obtain ⟨m, hm, rfl, em⟩ := em_nat (m := 24) (by decide) g.1 g.2
    rw [em] at h
    iterate 4 refine em_next rfl ?_
    refine em_inv_call rfl (ce_allLeft hS.1 ?_)
    iterate 1 refine em_next rfl ?_
    refine em_inv_call rfl (ce_findCheapest hS (by omega) (fun I1 a1 a2 a3 a4 => ?_))
    have h := h I1 a1 a2
    iterate 1 refine em_next rfl ?_
    cases e : em_chp P X (nI (2 ^ P.1 - 1)) m (2 ^ P.1) with
    | none =>
      rw [e] at h
      refine em_z_ne (fun q => absurd rfl q) (fun _ => ?_)
      iterate 1 refine em_next rfl ?_
      exact em_done rfl h
    | some b =>
      rw [e] at h a3
      dsimp only at h
      refine em_z_ne (fun _ => ?_) (fun q => absurd q (show ¬ em_bb true = 0 by decide))
      iterate 2 refine em_next rfl ?_
      have hw : w = 0 ∨ w = 1 := by
        rcases em_nat (m := 1) (by decide) g2.1 g2.2 with ⟨s, hs, rfl, -⟩
        rcases (show s = 0 ∨ s = 1 by omega) with rfl | rfl
        · exact Or.inl rfl
        · exact Or.inr rfl
      refine em_z_ne (fun q => ?_) (fun q => ?_)
      · rw [if_pos (hw.resolve_left q)] at h
        iterate 3 refine em_next rfl ?_
        exact em_doneE rfl a3 h
      · rw [if_neg (by rw [q]; decide)] at h
        iterate 3 refine em_next rfl ?_
        refine em_tp (a4 b e) ?_
        iterate 1 refine em_next rfl ?_
        exact em_done rfl h
  · rw [if_neg (fun q => g2 q.2)] at h
    iterate 1 refine em_next rfl ?_
    exact em_done rfl (h I em_fW.rf hS)
theorem cq_turnTo (hS : cl_S I lp P X) {a n : Int32} (h : ∀ I' : Nat → Nat → Int32, em_fW I I' → cl_S I' lp P X → Q (some (.int (sp_turnTo P X a n))) (em_SH, I', J, em_RT lw)) : em_call (d + 9) 137 [.ref 1, .int a, .int n] (em_SH, I, J, em_RT lw) Q := by
  have hn := hS.1.1.1
  unfold sp_turnTo at h
  iterate 3 refine em_next rfl ?_
  refine em_inv_call rfl (ce_hasRow hS.1 ?_)
  iterate 1 refine em_next rfl ?_
  refine em_b_eq (fun g => ?_) (fun g => ?_)
  · rw [if_neg (fun q => g q.1)] at h
    iterate 1 refine em_next rfl ?_
    exact em_done rfl (h I em_fW.rf hS)
  iterate 3 refine em_next rfl ?_
  refine em_inv_call rfl (ce_within (a := 0) (b := 24) ?_)
  iterate 1 refine em_next rfl ?_
  refine em_b_ne (fun g2 => ?_) (fun g2 => ?_)
  · rw [if_pos ⟨g, g2⟩] at h
    obtain ⟨m, hm, rfl, em⟩ := em_nat (m := 24) (by decide) g2.1 g2.2
    rw [em] at h
    iterate 4 refine em_next rfl ?_
    refine em_inv_call rfl (ce_findCheapest hS (by omega) (fun I1 a1 a2 a3 a4 => ?_))
    have h := h I1 a1 a2
    iterate 1 refine em_next rfl ?_
    cases e : em_chp P X a m (2 ^ P.1) with
    | none =>
      rw [e] at h
      refine em_z_eq (fun _ => ?_) (fun q => absurd rfl q)
      iterate 1 refine em_next rfl ?_
      exact em_done rfl h
    | some b =>
      rw [e] at h
      refine em_z_eq (fun q => absurd q (show ¬ em_bb true = 0 by decide)) (fun _ => ?_)
      iterate 3 refine em_next rfl ?_
      refine em_tp (a4 b e) ?_
      iterate 1 refine em_next rfl ?_
      exact em_done rfl h
  · rw [if_neg (fun q => g2 q.2)] at h
    iterate 1 refine em_next rfl ?_
    exact em_done rfl (h I em_fW.rf hS)
end CQ7

/-! the class: its questions, two: rows that stay, rows never reached, whistles -/
def ec_fm (c : Nat) (v : Nat → Nat) : Option Nat → Nat
  | none => c
  | some b => v b
def ec_who : Option Nat → Int32
  | none => -3
  | some b => nI b
def ec_hm (v : Nat → Nat) : Option Nat → Int32
  | none => 0
  | some b => nI (v b)
def wh_st (I : Nat → Nat → Int32) (o : Option Nat) (v : Nat → Nat) : Prop := I 279 4 = ec_who o ∧ I 279 5 = ec_hm v o
theorem em_mxE {a b : Nat} (ha : a < 2 ^ 31) (hb : b < 2 ^ 31) : (if nI a < nI b then nI b else nI a) = nI (if a < b then b else a) := by
  by_cases h : a < b
  · rw [if_pos ((nI_ltI ha hb).mpr h), if_pos h]
  · rw [if_neg (fun q => h ((nI_ltI ha hb).mp q)), if_neg h]
theorem em_mnE {a b : Nat} (ha : a < 2 ^ 31) (hb : b < 2 ^ 31) : (if nI b < nI a then nI b else nI a) = nI (if b < a then b else a) := by
  by_cases h : b < a
  · rw [if_pos ((nI_ltI hb ha).mpr h), if_pos h]
  · rw [if_neg (fun q => h ((nI_ltI hb ha).mp q)), if_neg h]
theorem ec_no3 : ∀ b, b < 9 → ¬ nI b = -3 := by decide +kernel
section CQ2
variable {d lw : Nat} {P : em_Pl} {X Y : em_Nt} {lp : Bool} {part : Nat → Int32} {I I0 : Nat → Nat → Int32} {J : Nat → Nat → Int64} {M : em_M} {Q : Option Value → em_M → Prop} {v : List Int32}
theorem ce_staying_l (hS : cl_S I lp P X) {k m : Nat} (hk : k + m = 2 ^ P.1) (h : ∀ I' : Nat → Nat → Int32, em_fC I I' → cl_S I' lp P X → Q (some (.int (nI (em_ct (2 ^ P.1) (em_stays P X))))) (em_SH, I', J, em_RT lw)) : em_wp em_sc0 (d + 5) 61 4 [some (.ref 281), some (.int (nI (em_ct k (em_stays P X)))), some (.int (nI k))] [] (em_SH, I, J, em_RT lw) Q := by
  have hn := hS.1.1.1
  have hp9 := em_pow9 hn
  have hp := Nat.two_pow_pos P.1
  induction m generalizing k I with
  | zero =>
    have e : k = 2 ^ P.1 := by omega
    subst e
    iterate 3 refine em_next rfl ?_
    refine em_inv_call rfl (ce_allLeft hS.1 ?_)
    iterate 1 refine em_next rfl ?_
    refine em_c_gt (fun _ => ?_) (fun h1 => absurd (nI_lt (by omega) (by omega)) h1)
    iterate 1 refine em_next rfl ?_
    exact em_done rfl (h I em_fC.rf hS)
  | succ m ih =>
    iterate 3 refine em_next rfl ?_
    refine em_inv_call rfl (ce_allLeft hS.1 ?_)
    iterate 1 refine em_next rfl ?_
    refine em_c_gt (fun h1 => absurd h1 (nI_nlt (by omega) (by omega))) (fun _ => ?_)
    iterate 4 refine em_next rfl ?_
    refine em_inv_call rfl (ce_Ra (s := k) (mm := 1) hS rfl (by omega) (by omega) (fun I1 a1 a2 => ?_))
    iterate 2 refine em_next rfl ?_
    have hlt : em_R P X 1 k < 2 ^ P.1 := em_R_lt (by omega)
    have g := ih (k := k + 1) (I := I1) a2 (by omega) (fun I' f s => h I' (a1.tr f) s)
    have ec : em_ct (k + 1) (em_stays P X) = em_ct k (em_stays P X) + (if em_stays P X k then 1 else 0) := rfl
    rw [ec, nI_succ] at g
    refine em_c_ne (fun q => ?_) (fun q => ?_)
    · rw [show em_stays P X k = false from decide_eq_false (fun e => q (by rw [e])), if_neg (by decide), Nat.add_zero] at g
      iterate 2 refine em_next rfl ?_
      exact g
    · rw [show em_stays P X k = true from decide_eq_true ((nI_eq (by omega) (by omega)).mp q), if_pos rfl, nI_succ] at g
      iterate 3 refine em_next rfl ?_
      exact g
theorem ce_nearest_l (hS : cl_S I lp P X) {k m : Nat} {o : Option Value} (hk : k + m = 2 ^ P.1) (h : ∀ I' : Nat → Nat → Int32, em_fC I I' → cl_S I' lp P X → Q (some (.int (em_oi (em_near P X (2 ^ P.1))))) (em_SH, I', J, em_RT lw)) : em_wp em_sc0 (d + 5) 62 8 [some (.ref 281), some (.int (em_oi (em_near P X k))), some (.int (nI (ec_fm 10 (fun s => em_pc (s ^^^ X.1)) (em_near P X k)))), some (.int (nI k)), o] [] (em_SH, I, J, em_RT lw) Q := by
  have hn := hS.1.1.1
  have hr := hS.2.1.1.1
  have hp9 := em_pow9 hn
  have hp := Nat.two_pow_pos P.1
  induction m generalizing k I o with
  | zero =>
    have e : k = 2 ^ P.1 := by omega
    subst e
    iterate 3 refine em_next rfl ?_
    refine em_inv_call rfl (ce_allLeft hS.1 ?_)
    iterate 1 refine em_next rfl ?_
    refine em_c_gt (fun _ => ?_) (fun h1 => absurd (nI_lt (by omega) (by omega)) h1)
    iterate 1 refine em_next rfl ?_
    exact em_done rfl (h I em_fC.rf hS)
  | succ m ih =>
    have x1 : k ^^^ X.1 < 2 ^ P.1 := Nat.xor_lt_two_pow (by omega) hr
    have p1 := em_pc_le (k ^^^ X.1)
    have en : em_near P X (k + 1) = match em_near P X k with
      | none => if em_stays P X k then some k else none
      | some b => if em_stays P X k && decide (em_pc (k ^^^ X.1) < em_pc (b ^^^ X.1)) then some k else some b := rfl
    have hf : ec_fm 10 (fun s => em_pc (s ^^^ X.1)) (em_near P X k) ≤ 10 := by
      cases em_near P X k with
      | none => exact Nat.le_refl _
      | some b => exact Nat.le_trans (em_pc_le _) (by decide)
    have ep : em_pc (k ^^^ X.1) < ec_fm 10 (fun s => em_pc (s ^^^ X.1)) (em_near P X k) → em_stays P X k = true → em_near P X (k + 1) = some k := fun z1 z2 => by
      rw [en]
      cases hq : em_near P X k with
      | none => exact if_pos z2
      | some b =>
        rw [hq] at z1
        have z3 : em_pc (k ^^^ X.1) < em_pc (b ^^^ X.1) := z1
        exact if_pos (by rw [z2, decide_eq_true z3]; rfl)
    have en1 : ¬ em_pc (k ^^^ X.1) < ec_fm 10 (fun s => em_pc (s ^^^ X.1)) (em_near P X k) → em_near P X (k + 1) = em_near P X k := fun z1 => by
      rw [en]
      cases hq : em_near P X k with
      | none =>
        rw [hq] at z1
        have z3 : ¬ em_pc (k ^^^ X.1) < 10 := z1
        omega
      | some b =>
        rw [hq] at z1
        have z3 : ¬ em_pc (k ^^^ X.1) < em_pc (b ^^^ X.1) := z1
        exact if_neg (by rw [decide_eq_false z3, Bool.and_false]; decide)
    have en3 : ¬ em_stays P X k = true → em_near P X (k + 1) = em_near P X k := fun z2 => by
      rw [en]
      cases hq : em_near P X k with
      | none => exact if_neg z2
      | some b => exact if_neg (fun q => z2 (by rw [Bool.and_eq_true] at q; exact q.1))
    iterate 3 refine em_next rfl ?_
    refine em_inv_call rfl (ce_allLeft hS.1 ?_)
    iterate 1 refine em_next rfl ?_
    refine em_c_gt (fun h1 => absurd h1 (nI_nlt (by omega) (by omega))) (fun _ => ?_)
    iterate 5 refine em_next rfl ?_
    refine em_inv_call rfl (ce_bits (em_xrE rfl hS.rw) (by omega) ?_)
    iterate 4 refine em_next rfl ?_
    refine em_c_ge (fun q => ?_) (fun q => ?_)
    · have q2 := (nI_leI (by omega) (by omega)).mp q
      have g := ih (k := k + 1) (I := I) (o := some (.int (nI (em_pc (k ^^^ X.1))))) hS (by omega) h
      rw [en1 (Nat.not_lt.mpr q2), nI_succ] at g
      iterate 2 refine em_next rfl ?_
      exact g
    · have q2 := Nat.not_le.mp (fun z => q ((nI_leI (by omega) (by omega)).mpr z))
      iterate 4 refine em_next rfl ?_
      refine em_inv_call rfl (ce_Ra (s := k) (mm := 1) hS rfl (by omega) (by omega) (fun I1 a1 a2 => ?_))
      iterate 2 refine em_next rfl ?_
      have hlt : em_R P X 1 k < 2 ^ P.1 := em_R_lt (by omega)
      have g := ih (k := k + 1) (I := I1) (o := some (.int (nI (em_pc (k ^^^ X.1))))) a2 (by omega) (fun I' f s => h I' (a1.tr f) s)
      refine em_c_ne (fun z => ?_) (fun z => ?_)
      · have z2 : ¬ em_stays P X k = true := fun e => z (by rw [of_decide_eq_true e])
        rw [en3 z2, nI_succ] at g
        iterate 2 refine em_next rfl ?_
        exact g
      · have z2 : em_stays P X k = true := decide_eq_true ((nI_eq (by omega) (by omega)).mp z)
        rw [ep q2 z2, nI_succ] at g
        iterate 6 refine em_next rfl ?_
        exact g
theorem cq_still (hS : cl_S I lp P X) {w : Int32} (h : ∀ I' : Nat → Nat → Int32, em_fW I I' → cl_S I' lp P X → Q (some (.int (sp_still P X w))) (em_SH, I', J, em_RT lw)) : em_call (d + 8) 148 [.ref 1, .int w] (em_SH, I, J, em_RT lw) Q := by
  unfold sp_still at h
  iterate 1 refine em_next rfl ?_
  refine em_inv_call rfl (ce_pair ?_)
  iterate 1 refine em_next rfl ?_
  refine em_b_ne (fun g => ?_) (fun g => ?_)
  · rw [if_pos g] at h
    iterate 2 refine em_next rfl ?_
    refine em_z_ne (fun z => ?_) (fun z => ?_)
    · rw [if_neg z] at h
      iterate 2 refine em_next rfl ?_
      refine em_inv_call rfl ?_
      iterate 6 refine em_next rfl ?_
      exact ce_nearest_l (k := 0) (m := 2 ^ P.1) hS (by omega) (fun I1 a1 a2 => em_done rfl (h I1 a1.W a2))
    · rw [if_pos z] at h
      iterate 2 refine em_next rfl ?_
      refine em_inv_call rfl ?_
      iterate 4 refine em_next rfl ?_
      refine ce_staying_l (k := 0) (m := 2 ^ P.1) hS (by omega) (fun I1 a1 a2 => ?_)
      iterate 1 refine em_next rfl ?_
      exact em_done rfl (h I1 a1.W a2)
  · rw [if_neg g] at h
    iterate 1 refine em_next rfl ?_
    exact em_done rfl (h I em_fW.rf hS)
theorem ce_eden_0 (hS : cl_S I lp P X) {k m : Nat} {n : Int32} {o1 o2 : Option Value} (hk : k + m = 512) (h0 : ∀ t, t < k → I 282 t = 0) (h : ∀ I' : Nat → Nat → Int32, em_fW I I' → cl_S I' lp P X → (∀ t, t < 512 → I' 282 t = 0) → em_wp em_sc0 (d + 5) 60 22 [some (.ref 281), some (.int (n)), some (.int (nI 512)), o1, o2] [] (em_SH, I', J, em_RT lw) Q) : em_wp em_sc0 (d + 5) 60 2 [some (.ref 281), some (.int (n)), some (.int (nI k)), o1, o2] [] (em_SH, I, J, em_RT lw) Q := by
  induction m generalizing k I with
  | zero =>
    have e : k = 512 := by omega
    subst e
    iterate 3 refine em_next rfl ?_
    refine em_c_ge (fun _ => ?_) (fun h1 => absurd (by decide) h1)
    exact h I em_fW.rf hS h0
  | succ m ih =>
    iterate 3 refine em_next rfl ?_
    refine em_c_ge (fun h1 => absurd h1 (nI_ge (b := 512) (by omega) (by decide))) (fun _ => ?_)
    iterate 4 refine em_next rfl ?_
    refine em_basn (y := 0) rfl rfl (by omega) (by decide) rfl ?_
    iterate 2 refine em_next rfl ?_
    have g := ih (k := k + 1) (I := em_u I 282 k 0) (hS.row (a := 282) (by decide) (fun c hc => em_u_row hc)) (by omega) (fun t ht => ?_) (fun I' f s => h I' ((em_fW.row (a := 282) (by decide) (fun c hc => em_u_row hc)).tr f) s)
    · rw [nI_succ] at g
      exact g
    · by_cases q : t = k
      · subst q
        exact em_u_self
      · rw [em_u_ne q]
        exact h0 t (by omega)
theorem ce_eden_1 (hS : cl_S I lp P X) {k m n : Nat} {o : Option Value} (hnn : n < 25) (hk : k + m = 2 ^ P.1) (h0 : ∀ t, t < 2 ^ P.1 → I 282 t = em_bb (em_im P X n k t)) (h : ∀ I' : Nat → Nat → Int32, em_fW I I' → cl_S I' lp P X → Q (some (.int (nI (em_ct (2 ^ P.1) (fun t => !em_im P X n (2 ^ P.1) t))))) (em_SH, I', J, em_RT lw)) : em_wp em_sc0 (d + 5) 60 34 [some (.ref 281), some (.int (nI n)), some (.int (nI (em_ct (2 ^ P.1) (fun t => !em_im P X n k t)))), some (.int (nI k)), o] [] (em_SH, I, J, em_RT lw) Q := by
  have hn := hS.1.1.1
  have hp9 := em_pow9 hn
  have hp := Nat.two_pow_pos P.1
  induction m generalizing k I o with
  | zero =>
    have e : k = 2 ^ P.1 := by omega
    subst e
    iterate 3 refine em_next rfl ?_
    refine em_inv_call rfl (ce_allLeft hS.1 ?_)
    iterate 1 refine em_next rfl ?_
    refine em_c_gt (fun _ => ?_) (fun h1 => absurd (nI_lt (by omega) (by omega)) h1)
    iterate 1 refine em_next rfl ?_
    exact em_done rfl (h I em_fW.rf hS)
  | succ m ih =>
    iterate 3 refine em_next rfl ?_
    refine em_inv_call rfl (ce_allLeft hS.1 ?_)
    iterate 1 refine em_next rfl ?_
    refine em_c_gt (fun h1 => absurd h1 (nI_nlt (by omega) (by omega))) (fun _ => ?_)
    iterate 4 refine em_next rfl ?_
    refine em_inv_call rfl (ce_Ra (s := k) hS rfl (by omega) (by omega) (fun I1 a1 a2 => ?_))
    have hlt : em_R P X n k < 2 ^ P.1 := em_R_lt (by omega)
    iterate 4 refine em_next rfl ?_
    refine em_inv_call rfl (ce_hasRow a2.1 ?_)
    iterate 1 refine em_next rfl ?_
    refine em_b_eq (fun q => absurd ⟨nI_pos' (by omega), nI_le (by omega) (by omega)⟩ q) (fun _ => ?_)
    iterate 3 refine em_next rfl ?_
    refine em_c_ge (fun q => absurd q (nI_ge (b := 512) (by omega) (by decide))) (fun _ => ?_)
    iterate 3 refine em_next rfl ?_
    refine em_baln rfl rfl (by omega) (by decide) ?_
    have hc := em_ct_del (p := em_im P X n k) hlt
    have hm : I1 282 (em_R P X n k) = em_bb (em_im P X n k (em_R P X n k)) := by
      rw [a1 _ (by decide)]
      exact h0 _ hlt
    iterate 1 refine em_next rfl ?_
    cases hq : em_im P X n k (em_R P X n k) with
    | true =>
      rw [hq, if_pos rfl, Nat.add_zero] at hc
      refine em_z_neE (hm.trans (by rw [hq])) (fun _ => ?_) (fun z => absurd z (by decide))
      have g := ih (k := k + 1) (I := I1) (o := some (.int (nI (em_R P X n k)))) a2 (by omega) (fun t ht => by
        rw [a1 _ (by decide), h0 t ht, em_im]
        by_cases z : em_R P X n k = t
        · rw [← z, hq]; rfl
        · rw [decide_eq_false z, Bool.or_false]) (fun I' f s => h I' (a1.W.tr f) s)
      have e3 : em_ct (2 ^ P.1) (fun t => !em_im P X n (k + 1) t) = em_ct (2 ^ P.1) (fun t => !em_im P X n k t) := hc
      rw [e3, nI_succ] at g
      iterate 2 refine em_next rfl ?_
      exact g
    | false =>
      rw [hq, if_neg (by decide)] at hc
      refine em_z_neE (x' := em_bb false) (hm.trans (by rw [hq])) (fun z => absurd rfl z) (fun _ => ?_)
      iterate 4 refine em_next rfl ?_
      refine em_basn (y := 1) rfl rfl (by omega) (by decide) rfl ?_
      have g := ih (k := k + 1) (I := em_u I1 282 (em_R P X n k) 1) (o := some (.int (nI (em_R P X n k)))) (a2.row (a := 282) (by decide) (fun c hc => em_u_row hc)) (by omega) (fun t ht => by
        rw [em_im]
        by_cases z : t = em_R P X n k
        · subst z
          rw [em_u_self, decide_eq_true rfl, Bool.or_true]
          rfl
        · rw [em_u_ne z, a1 _ (by decide), h0 t ht, decide_eq_false (fun e => z e.symm), Bool.or_false]) (fun I' f s => h I' ((a1.W.tr (em_fW.row (a := 282) (by decide) (fun c hc => em_u_row hc))).tr f) s)
      have e3 : em_ct (2 ^ P.1) (fun t => !em_im P X n k t) = em_ct (2 ^ P.1) (fun t => !em_im P X n (k + 1) t) + 1 := hc.symm
      rw [e3, nI_succ]
      rw [nI_succ] at g
      iterate 3 refine em_next rfl ?_
      rw [Int32.add_assoc, show (1 : Int32) + Int32.ofInt (-1) = 0 from rfl, Int32.add_zero]
      exact g
theorem em_im0 (P : em_Pl) (X : em_Nt) (n : Nat) (m : Nat) : em_ct m (fun t => !em_im P X n 0 t) = m := by
  induction m with
  | zero => rfl
  | succ m ih => rw [em_ct, ih]; rfl
theorem cq_eden (hS : cl_S I lp P X) {n : Int32} (h : ∀ I' : Nat → Nat → Int32, em_fW I I' → cl_S I' lp P X → Q (some (.int (sp_eden P X n))) (em_SH, I', J, em_RT lw)) : em_call (d + 8) 143 [.ref 1, .int n] (em_SH, I, J, em_RT lw) Q := by
  have hn := hS.1.1.1
  have hp9 := em_pow9 hn
  have hp := Nat.two_pow_pos P.1
  unfold sp_eden at h
  iterate 3 refine em_next rfl ?_
  refine em_inv_call rfl (ce_within (a := 1) (b := 24) ?_)
  iterate 1 refine em_next rfl ?_
  refine em_b_ne (fun g => ?_) (fun g => ?_)
  · rw [if_pos g] at h
    obtain ⟨m, hm, rfl, em⟩ := em_nat (m := 24) (by decide) (Int32.le_trans (by decide) g.1) g.2
    rw [em] at h
    iterate 3 refine em_next rfl ?_
    refine em_inv_call rfl ?_
    iterate 2 refine em_next rfl ?_
    refine ce_eden_0 (k := 0) (m := 512) hS (by omega) (fun t ht => absurd ht (Nat.not_lt_zero _)) (fun I1 a1 a2 a3 => ?_)
    iterate 2 refine em_next rfl ?_
    refine em_inv_call rfl (ce_allLeft a2.1 ?_)
    iterate 2 refine em_next rfl ?_
    refine em_next rfl ?_
    refine em_next rfl ?_
    refine em_next rfl ?_
    have g := ce_eden_1 (d := d + 2) (lw := lw) (J := J) (k := 0) (m := 2 ^ P.1) (n := m) (o := none) a2 (by omega) (by omega) (fun t ht => a3 t (by omega)) (Q := fun r M' => em_wp em_sc0 (d + 8) 143 20 [some (.ref 1), some (.int (nI m))] (r.toList ++ []) M' Q) (fun I2 b1 b2 => em_done rfl (h I2 (a1.tr b1) b2))
    rw [em_im0] at g
    have e : nI (2 ^ P.1 - 1) + 1 = nI (2 ^ P.1) := by rw [← nI_succ, Nat.sub_add_cancel hp]
    rw [← e] at g
    exact g
  · rw [if_neg g] at h
    iterate 1 refine em_next rfl ?_
    exact em_done rfl (h I em_fW.rf hS)
end CQ2

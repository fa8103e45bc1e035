/-! the class: its questions, three: whistles -/
section CQ3
variable {d lw : Nat} {P : em_Pl} {X Y : em_Nt} {lp : Bool} {part : Nat → Int32} {I I0 : Nat → Nat → Int32} {J : Nat → Nat → Int64} {M : em_M} {Q : Option Value → em_M → Prop} {v : List Int32}
theorem ce_settle (hS : cl_S I lp P X) {x y : Int32} (h : ∀ I' : Nat → Nat → Int32, (∀ a, a ≠ 279 → I' a = I a) → em_fW I I' → cl_S I' lp P X → I' 279 4 = x → I' 279 5 = y → Q none (em_SH, I', J, em_RT lw)) : em_call d 112 [.ref 279, .int x, .int y] (em_SH, I, J, em_RT lw) Q := by
  iterate 6 refine em_next rfl ?_
  refine em_done rfl ?_
  show Q none (em_SH, em_u (em_u I 279 4 x) 279 5 y, J, em_RT lw)
  have hr : ∀ a, a ≠ 279 → em_u (em_u I 279 4 x) 279 5 y a = I a := fun a ha => by rw [em_u_row ha, em_u_row ha]
  exact h _ hr (em_fW.row (a := 279) (by decide) hr) (hS.row (a := 279) (by decide) hr) (by rw [em_u_ne (by decide), em_u_self]) em_u_self
theorem ce_answer {o : Option Nat} {u : Nat → Nat} (ho : ∀ b, o = some b → b < 9) (hw : wh_st I o u) {b : Int32} (h : Q (some (.int (if b = 0 then em_oi o else em_ov u o))) (em_SH, I, J, em_RT lw)) : em_call d 111 [.ref 279, .int b] (em_SH, I, J, em_RT lw) Q := by
  iterate 4 refine em_next rfl ?_
  cases o with
  | none =>
    refine em_c_neE hw.1 rfl (fun q => absurd rfl q) (fun _ => ?_)
    iterate 1 refine em_next rfl ?_
    refine em_done rfl ?_
    have e : (if b = 0 then em_oi none else em_ov u none) = -2 := by split <;> rfl
    rw [e] at h
    exact h
  | some k =>
    refine em_c_neE hw.1 rfl (fun _ => ?_) (fun q => absurd q (ec_no3 k (ho k rfl)))
    iterate 2 refine em_next rfl ?_
    refine em_z_eq (fun z => ?_) (fun z => ?_)
    · rw [if_pos z] at h
      iterate 2 refine em_next rfl ?_
      exact em_doneE rfl hw.1 h
    · rw [if_neg z] at h
      iterate 3 refine em_next rfl ?_
      exact em_doneE rfl hw.2 h
theorem em_lf_le (P : em_Pl) (X : em_Nt) (n b : Nat) : em_lf P X n b ≤ 9 := em_pc_le _
theorem ce_each_l (hS : cl_S I lp P X) {n k m : Nat} (hnn : n < 25) (hk : k + m = P.1) (h0 : ∀ b, b < k → I 280 b = nI (em_lf P X n b)) (h : ∀ I' : Nat → Nat → Int32, em_fW I I' → cl_S I' lp P X → (∀ b, b < P.1 → I' 280 b = nI (em_lf P X n b)) → Q none (em_SH, I', J, em_RT lw)) : em_wp em_sc0 (d + 5) 114 2 [some (.ref 279), some (.int (nI n)), some (.int (nI k))] [] (em_SH, I, J, em_RT lw) Q := by
  have hn := hS.1.1.1
  have hr := hS.2.1.1.1
  have hp9 := em_pow9 hn
  induction m generalizing k I with
  | zero =>
    have e : k = P.1 := by omega
    subst e
    iterate 5 refine em_next rfl ?_
    refine em_c_geE rfl hS.mn (fun _ => ?_) (fun h1 => absurd (nI_le (Nat.le_refl _) (by omega)) h1)
    exact em_done rfl (h I em_fW.rf hS h0)
  | succ m ih =>
    iterate 5 refine em_next rfl ?_
    refine em_c_geE rfl hS.mn (fun h1 => absurd h1 (nI_ge (by omega) (by omega))) (fun _ => ?_)
    iterate 13 refine em_next rfl ?_
    refine em_inv_call rfl (ce_Ra hS (em_xbE hS.rw (by omega)) (em_xlt hr (by omega)) (by omega) (fun I1 a1 a2 => ?_))
    have hlt : em_R P X n (X.1 ^^^ 2 ^ k) < 2 ^ P.1 := em_R_lt (em_xlt hr (by omega))
    refine em_inv_call rfl (ce_bits rfl (by omega) ?_)
    refine em_iasn rfl rfl (by omega) (by decide) ?_
    iterate 2 refine em_next rfl ?_
    have hr1 : ∀ c, c ≠ 280 → em_u I1 280 k (nI (em_pc (em_R P X n (X.1 ^^^ 2 ^ k)))) c = I1 c := fun c hc => em_u_row hc
    have g := ih (k := k + 1) (I := em_u I1 280 k (nI (em_pc (em_R P X n (X.1 ^^^ 2 ^ k))))) (a2.row (a := 280) (by decide) hr1) (by omega) (fun b hb => by
      by_cases q : b = k
      · subst q
        exact em_u_self
      · rw [em_u_ne q, a1 _ (by decide)]
        exact h0 b (by omega)) (fun I' f s => h I' ((a1.W.tr (em_fW.row (a := 280) (by decide) hr1)).tr f) s)
    rw [nI_succ] at g
    exact g
theorem ce_each (hS : cl_S I lp P X) {n : Nat} (hnn : n < 25) (h : ∀ I' : Nat → Nat → Int32, em_fW I I' → cl_S I' lp P X → (∀ b, b < P.1 → I' 280 b = nI (em_lf P X n b)) → Q none (em_SH, I', J, em_RT lw)) : em_call (d + 5) 114 [.ref 279, .int (nI n)] (em_SH, I, J, em_RT lw) Q := by
  iterate 2 refine em_next rfl ?_
  exact ce_each_l (k := 0) (m := P.1) hS hnn (by omega) (fun b hb => absurd hb (Nat.not_lt_zero _)) h
theorem ce_worst_l (hS : cl_S I lp P X) {n k m : Nat} {x : Int32} (hk : k + m = P.1) (hv : ∀ b, b < P.1 → I 280 b = nI (em_lf P X n b)) (hw : wh_st I (em_ai (fun _ => true) (em_lf P X n) k) (em_lf P X n)) (h : ∀ I' : Nat → Nat → Int32, em_fW I I' → cl_S I' lp P X → wh_st I' (em_ai (fun _ => true) (em_lf P X n) P.1) (em_lf P X n) → Q none (em_SH, I', J, em_RT lw)) : em_wp em_sc0 (d + 5) 113 14 [some (.ref 279), some (.int (x)), some (.int (nI k))] [] (em_SH, I, J, em_RT lw) Q := by
  have hn := hS.1.1.1
  induction m generalizing k I with
  | zero =>
    have e : k = P.1 := by omega
    subst e
    iterate 5 refine em_next rfl ?_
    refine em_c_geE rfl hS.mn (fun _ => ?_) (fun h1 => absurd (nI_le (Nat.le_refl _) (by omega)) h1)
    exact em_done rfl (h I em_fW.rf hS hw)
  | succ m ih =>
    have l1 := em_lf_le P X n k
    iterate 5 refine em_next rfl ?_
    refine em_c_geE rfl hS.mn (fun h1 => absurd h1 (nI_ge (by omega) (by omega))) (fun _ => ?_)
    iterate 4 refine em_next rfl ?_
    have gg : em_ai (fun _ => true) (em_lf P X n) (k + 1) = some k → em_wp em_sc0 (d + 5) 113 47 [some (.ref 279), some (.int (x)), some (.int (nI k))] [] (em_SH, I, J, em_RT lw) Q := fun e => by
      iterate 5 refine em_next rfl ?_
      refine em_ialn rfl rfl (by omega) (by decide) ?_
      refine em_tp (hv k (by omega)) ?_
      refine em_inv_call rfl (ce_settle hS (fun I1 a1 a2 a3 a4 a5 => ?_))
      iterate 2 refine em_next rfl ?_
      have g := ih (k := k + 1) (I := I1) a3 (by omega) (fun b hb => by rw [a1 _ (by decide)]; exact hv b hb) (by rw [e]; exact ⟨a4, a5⟩) (fun I' f => h I' (a2.tr f))
      rw [nI_succ] at g
      exact g
    cases e : em_ai (fun _ => true) (em_lf P X n) k with
    | none =>
      rw [e] at hw
      refine em_c_eqE hw.1 rfl (fun _ => ?_) (fun q => absurd rfl q)
      exact gg (by rw [em_ai, e]; rfl)
    | some b =>
      have hb : b < k := em_ai_lt e
      have l2 := em_lf_le P X n b
      have en : em_ai (fun _ => true) (em_lf P X n) (k + 1) = if decide (em_lf P X n k < em_lf P X n b) then some k else some b := by
        rw [em_ai, e]
        dsimp only
        rw [Bool.true_and]
      rw [e] at hw
      refine em_c_eqE hw.1 rfl (fun q => absurd q (ec_no3 b (by omega))) (fun _ => ?_)
      iterate 3 refine em_next rfl ?_
      refine em_ialn rfl rfl (by omega) (by decide) ?_
      iterate 3 refine em_next rfl ?_
      refine em_c_geE (hv k (by omega)) hw.2 (fun q => ?_) (fun q => ?_)
      · have q2 := (nI_leI (by omega) (by omega)).mp q
        rw [decide_eq_false (by omega), if_neg (by decide)] at en
        iterate 2 refine em_next rfl ?_
        have g := ih (k := k + 1) (I := I) hS (by omega) hv (by rw [en]; exact hw) h
        rw [nI_succ] at g
        exact g
      · have q2 := Nat.not_le.mp (fun z => q ((nI_leI (by omega) (by omega)).mpr z))
        rw [decide_eq_true q2, if_pos rfl] at en
        exact gg en
theorem em_ai_lt9 {p : Nat → Bool} {u : Nat → Nat} {n : Nat} (hn : n ≤ 9) : ∀ b, em_ai p u n = some b → b < 9 := fun b e => by have := em_ai_lt e; omega
theorem em_xi_lt9 {u : Nat → Nat} {n : Nat} (hn : n ≤ 9) : ∀ b, em_xi u n = some b → b < 9 := fun b e => by have := em_xi_lt e; omega
theorem cq_worst (hS : cl_S I lp P X) {n w : Int32} (h : ∀ I' : Nat → Nat → Int32, em_fW I I' → cl_S I' lp P X → Q (some (.int (sp_worst P X n w))) (em_SH, I', J, em_RT lw)) : em_call (d + 9) 150 [.ref 1, .int n, .int w] (em_SH, I, J, em_RT lw) Q := by
  have hn := hS.1.1.1
  unfold sp_worst at h
  iterate 3 refine em_next rfl ?_
  refine em_inv_call rfl (ce_within (a := 0) (b := 24) ?_)
  iterate 1 refine em_next rfl ?_
  refine em_b_eq (fun g => ?_) (fun g => ?_)
  · rw [if_neg (fun q => g q.1)] at h
    iterate 1 refine em_next rfl ?_
    exact em_done rfl (h I em_fW.rf hS)
  iterate 1 refine em_next rfl ?_
  refine em_inv_call rfl (ce_pair ?_)
  iterate 1 refine em_next rfl ?_
  refine em_b_ne (fun g2 => ?_) (fun g2 => ?_)
  · rw [if_pos ⟨g, g2⟩] at h
    obtain ⟨m, hm, rfl, em⟩ := em_nat (m := 24) (by decide) g.1 g.2
    rw [em] at h
    iterate 3 refine em_next rfl ?_
    refine em_inv_call rfl ?_
    iterate 2 refine em_next rfl ?_
    refine em_inv_call rfl (ce_each hS (by omega) (fun I1 a1 a2 a3 => ?_))
    iterate 3 refine em_next rfl ?_
    refine em_inv_call rfl (ce_settle a2 (fun I2 b1 b2 b3 b4 b5 => ?_))
    iterate 2 refine em_next rfl ?_
    refine ce_worst_l (d := d + 3) (k := 0) (m := P.1) (n := m) b3 (by omega) (fun b hb => by rw [b1 _ (by decide)]; exact a3 b hb) ⟨b4, b5⟩ (fun I3 c1 c2 c3 => ?_)
    iterate 5 refine em_next rfl ?_
    refine em_c_ne (fun q => ?_) (fun q => ?_)
    · iterate 1 refine em_next rfl ?_
      refine em_inv_call rfl (ce_answer (em_ai_lt9 hn) c3 ?_)
      rw [if_pos (show Int32.ofInt 0 = 0 from rfl)]
      have g3 : w = 0 := by
        rcases em_nat (m := 1) (by decide) g2.1 g2.2 with ⟨s, hs, rfl, -⟩
        rcases (show s = 0 ∨ s = 1 by omega) with rfl | rfl
        · rfl
        · exact absurd rfl q
      rw [if_pos g3] at h
      exact em_done rfl (h I3 ((a1.tr b2).tr c1) c2)
    · iterate 2 refine em_next rfl ?_
      refine em_inv_call rfl (ce_answer (em_ai_lt9 hn) c3 ?_)
      rw [if_neg (by decide)]
      have g3 : ¬ w = 0 := by rw [q]; decide
      rw [if_neg g3] at h
      exact em_done rfl (h I3 ((a1.tr b2).tr c1) c2)
  · rw [if_neg (fun q => g2 q.2)] at h
    iterate 1 refine em_next rfl ?_
    exact em_done rfl (h I em_fW.rf hS)
theorem ce_most_l (hS : cl_S I lp P X) {s n k m : Nat} {a : Int32} (ea : a = nI s) (hnn : n < 25) (hs : s < 2 ^ P.1) (hk : k + m = P.1) (h : ∀ I' : Nat → Nat → Int32, em_fC I I' → cl_S I' lp P X → Q (some (.int (nI (em_mw P X n s)))) (em_SH, I', J, em_RT lw)) : em_wp em_sc0 (d + 5) 118 16 [some (.ref 279), some (.int (a)), some (.int (nI n)), some (.int (nI (em_mxx (em_pc (em_R P X n s)) (fun b => em_pc (em_R P X n (s ^^^ 2 ^ b))) k))), some (.int (nI k))] [] (em_SH, I, J, em_RT lw) Q := by
  have hn := hS.1.1.1
  have hp9 := em_pow9 hn
  induction m generalizing k I with
  | zero =>
    have e : k = P.1 := by omega
    subst e
    iterate 5 refine em_next rfl ?_
    refine em_c_geE rfl hS.mn (fun _ => ?_) (fun h1 => absurd (nI_le (Nat.le_refl _) (by omega)) h1)
    iterate 1 refine em_next rfl ?_
    exact em_done rfl (h I em_fC.rf hS)
  | succ m ih =>
    iterate 5 refine em_next rfl ?_
    refine em_c_geE rfl hS.mn (fun h1 => absurd h1 (nI_ge (by omega) (by omega))) (fun _ => ?_)
    iterate 9 refine em_next rfl ?_
    refine em_inv_call rfl (ce_Ra hS (em_xbE ea (by omega)) (em_xlt hs (by omega)) (by omega) (fun I1 a1 a2 => ?_))
    have hlt : em_R P X n (s ^^^ 2 ^ k) < 2 ^ P.1 := em_R_lt (em_xlt hs (by omega))
    refine em_inv_call rfl (ce_bits rfl (by omega) ?_)
    have m1 := em_mxx_le (em_pc_le (em_R P X n s)) (fun b => em_pc_le (em_R P X n (s ^^^ 2 ^ b))) k
    have m2 := em_pc_le (em_R P X n (s ^^^ 2 ^ k))
    iterate 1 refine em_next rfl ?_
    refine em_tp (em_mxE (by omega) (by omega)) ?_
    have g := ih (k := k + 1) (I := I1) a2 (by omega) (fun I' f => h I' (a1.tr f))
    rw [em_mxx, nI_succ] at g
    iterate 3 refine em_next rfl ?_
    exact g
theorem ce_most (hS : cl_S I lp P X) {s n : Nat} {a : Int32} (ea : a = nI s) (hnn : n < 25) (hs : s < 2 ^ P.1) (h : ∀ I' : Nat → Nat → Int32, em_fC I I' → cl_S I' lp P X → Q (some (.int (nI (em_mw P X n s)))) (em_SH, I', J, em_RT lw)) : em_call (d + 5) 118 [.ref 279, .int a, .int (nI n)] (em_SH, I, J, em_RT lw) Q := by
  have hp9 := em_pow9 hS.1.1.1
  iterate 4 refine em_next rfl ?_
  refine em_inv_call rfl (ce_Ra hS ea hs (by omega) (fun I1 a1 a2 => ?_))
  have hlt : em_R P X n s < 2 ^ P.1 := em_R_lt hs
  refine em_inv_call rfl (ce_bits rfl (by omega) ?_)
  iterate 3 refine em_next rfl ?_
  exact ce_most_l (k := 0) (m := P.1) a2 ea hnn hs (by omega) (fun I' f => h I' (a1.tr f))
theorem ce_duel_l (hS : cl_S I lp P X) {n k m : Nat} {o : Option Value} (hnn : n < 25) (hk : k + m = P.1) (hw : wh_st I (em_ai (fun _ => true) (em_mwb P X n) k) (em_mwb P X n)) (h : ∀ I' : Nat → Nat → Int32, em_fW I I' → cl_S I' lp P X → wh_st I' (em_ai (fun _ => true) (em_mwb P X n) P.1) (em_mwb P X n) → Q none (em_SH, I', J, em_RT lw)) : em_wp em_sc0 (d + 6) 117 9 [some (.ref 279), some (.int (nI n)), some (.int (nI k)), o] [] (em_SH, I, J, em_RT lw) Q := by
  have hn := hS.1.1.1
  have hr := hS.2.1.1.1
  induction m generalizing k I o with
  | zero =>
    have e : k = P.1 := by omega
    subst e
    iterate 5 refine em_next rfl ?_
    refine em_c_geE rfl hS.mn (fun _ => ?_) (fun h1 => absurd (nI_le (Nat.le_refl _) (by omega)) h1)
    exact em_done rfl (h I em_fW.rf hS hw)
  | succ m ih =>
    have l1 : em_mwb P X n k ≤ 9 := em_mw_le P X n _
    iterate 5 refine em_next rfl ?_
    refine em_c_geE rfl hS.mn (fun h1 => absurd h1 (nI_ge (by omega) (by omega))) (fun _ => ?_)
    iterate 9 refine em_next rfl ?_
    refine em_inv_call rfl (ce_most hS (em_xbE hS.rw (by omega)) hnn (em_xlt hr (by omega)) (fun I1 a1 a2 => ?_))
    have hw1 : ∀ q, wh_st I q (em_mwb P X n) → wh_st I1 q (em_mwb P X n) := fun q hq => by
      unfold wh_st
      rw [a1 _ (by decide)]
      exact hq
    iterate 5 refine em_next rfl ?_
    have gg : em_ai (fun _ => true) (em_mwb P X n) (k + 1) = some k → em_wp em_sc0 (d + 6) 117 54 [some (.ref 279), some (.int (nI n)), some (.int (nI k)), some (.int (nI (em_mwb P X n k)))] [] (em_SH, I1, J, em_RT lw) Q := fun e => by
      iterate 3 refine em_next rfl ?_
      refine em_inv_call rfl (ce_settle a2 (fun I2 b1 b2 b3 b4 b5 => ?_))
      iterate 2 refine em_next rfl ?_
      have g := ih (k := k + 1) (I := I2) (o := some (.int (nI (em_mwb P X n k)))) b3 (by omega) (by rw [e]; exact ⟨b4, b5⟩) (fun I' f => h I' ((a1.W.tr b2).tr f))
      rw [nI_succ] at g
      exact g
    cases e : em_ai (fun _ => true) (em_mwb P X n) k with
    | none =>
      rw [e] at hw
      refine em_c_eqE (hw1 _ hw).1 rfl (fun _ => ?_) (fun q => absurd rfl q)
      exact gg (by rw [em_ai, e]; rfl)
    | some b =>
      have hb : b < k := em_ai_lt e
      have l2 : em_mwb P X n b ≤ 9 := em_mw_le P X n _
      have en : em_ai (fun _ => true) (em_mwb P X n) (k + 1) = if decide (em_mwb P X n k < em_mwb P X n b) then some k else some b := by
        rw [em_ai, e]
        dsimp only
        rw [Bool.true_and]
      rw [e] at hw
      refine em_c_eqE (hw1 _ hw).1 rfl (fun q => absurd q (ec_no3 b (by omega))) (fun _ => ?_)
      iterate 4 refine em_next rfl ?_
      refine em_c_geE (x' := nI (em_mwb P X n k)) rfl (hw1 _ hw).2 (fun q => ?_) (fun q => ?_)
      · have q2 := (nI_leI (by omega) (by omega)).mp q
        rw [decide_eq_false (by omega), if_neg (by decide)] at en
        iterate 2 refine em_next rfl ?_
        have g := ih (k := k + 1) (I := I1) (o := some (.int (nI (em_mwb P X n k)))) a2 (by omega) (by rw [en]; exact hw1 _ hw) (fun I' f => h I' (a1.W.tr f))
        rw [nI_succ] at g
        exact g
      · have q2 := Nat.not_le.mp (fun z => q ((nI_leI (by omega) (by omega)).mpr z))
        rw [decide_eq_true q2, if_pos rfl] at en
        exact gg en
theorem cq_duel (hS : cl_S I lp P X) {n w : Int32} (h : ∀ I' : Nat → Nat → Int32, em_fW I I' → cl_S I' lp P X → Q (some (.int (sp_duel P X n w))) (em_SH, I', J, em_RT lw)) : em_call (d + 9) 144 [.ref 1, .int n, .int w] (em_SH, I, J, em_RT lw) Q := by
  have hn := hS.1.1.1
  unfold sp_duel at h
  iterate 3 refine em_next rfl ?_
  refine em_inv_call rfl (ce_within (a := 0) (b := 24) ?_)
  iterate 1 refine em_next rfl ?_
  refine em_b_eq (fun g => ?_) (fun g => ?_)
  · rw [if_neg (fun q => g q.1)] at h
    iterate 1 refine em_next rfl ?_
    exact em_done rfl (h I em_fW.rf hS)
  iterate 1 refine em_next rfl ?_
  refine em_inv_call rfl (ce_pair ?_)
  iterate 1 refine em_next rfl ?_
  refine em_b_ne (fun g2 => ?_) (fun g2 => ?_)
  · rw [if_pos ⟨g, g2⟩] at h
    obtain ⟨m, hm, rfl, em⟩ := em_nat (m := 24) (by decide) g.1 g.2
    rw [em] at h
    iterate 3 refine em_next rfl ?_
    refine em_inv_call rfl ?_
    iterate 3 refine em_next rfl ?_
    refine em_inv_call rfl (ce_settle hS (fun I2 b1 b2 b3 b4 b5 => ?_))
    iterate 2 refine em_next rfl ?_
    refine ce_duel_l (d := d + 2) (k := 0) (m := P.1) (n := m) b3 (by omega) (by omega) ⟨b4, b5⟩ (fun I3 c1 c2 c3 => ?_)
    iterate 4 refine em_next rfl ?_
    refine em_z_ne (fun q => ?_) (fun q => ?_)
    · iterate 1 refine em_next rfl ?_
      refine em_inv_call rfl (ce_answer (em_ai_lt9 hn) c3 ?_)
      rw [if_pos (show Int32.ofInt 0 = 0 from rfl)]
      rw [if_neg q] at h
      exact em_done rfl (h I3 (b2.tr c1) c2)
    · iterate 2 refine em_next rfl ?_
      refine em_inv_call rfl (ce_answer (em_ai_lt9 hn) c3 ?_)
      rw [if_neg (by decide)]
      rw [if_pos q] at h
      exact em_done rfl (h I3 (b2.tr c1) c2)
  · rw [if_neg (fun q => g2 q.2)] at h
    iterate 1 refine em_next rfl ?_
    exact em_done rfl (h I em_fW.rf hS)
end CQ3

/-! the reference: hours gone through in questions -/
abbrev mo_Nt (I : Nat → Nat → Int32) (P : em_Pl) (Y : em_Nt) : Prop := mo_N I P.1 Y.1 Y.2.1 P.2.2.2.2 Y.2.2
abbrev mo_Pp (I : Nat → Nat → Int32) (lv : Nat) (P : em_Pl) : Prop := mo_P I lv P.1 P.2.1 P.2.2.1 P.2.2.2.1
/-- whose parting shows -/
def em_sh (P : em_Pl) (Y : em_Nt) : Nat := em_or P.1 (fun b => decide (0 < Y.2.2 b))
def sp_shows (P : em_Pl) (X : em_Nt) (n : Int32) : Int32 := if em_ok 0 48 n then nI (em_pc (em_sh P (em_it P true 0 n.toNatClampNeg X))) else -1
/-- the first hour at which it is so -/
def em_fh (p : Nat → Bool) : Nat → Nat → Int32
  | _, 0 => -2
  | k, m + 1 => if p k then nI k else em_fh p (k + 1) m
def sp_again (P : em_Pl) (X : em_Nt) : Int32 := em_fh (fun k => decide ((em_it P true 0 k X).1 = X.1)) 1 240
def sp_leave (P : em_Pl) (X : em_Nt) (b : Int32) : Int32 := if em_okB P b then em_fh (fun k => decide (0 < (em_it P true 0 k X).2.2 b.toNatClampNeg) != decide (0 < X.2.2 b.toNatClampNeg)) 1 240 else -1
def sp_then (P : em_Pl) (X : em_Nt) (sd b n w : Int32) : Int32 := if em_ok 0 48 n ∧ em_ok 0 2 w ∧ (w < 2 → em_okB P b) then (if w = 0 then em_bit (em_it P false sd n.toNatClampNeg X).1 b.toNatClampNeg else if w = 1 then (em_it P false sd n.toNatClampNeg X).2.2 b.toNatClampNeg else nI (em_pc (em_it P false sd n.toNatClampNeg X).1)) else -100000
def em_yr (P : em_Pl) (X : em_Nt) (sd : Int32) (n k : Nat) : Bool := decide ((em_it P false (sd + nI k) n X).1 = 2 ^ P.1 - 1)
def sp_year (P : em_Pl) (X : em_Nt) (sd n s : Int32) : Int32 := if em_ok 0 48 n ∧ em_ok 1 20 s then nI (em_ct s.toNatClampNeg (em_yr P X sd n.toNatClampNeg)) else -1
def em_sm (f : Nat → Nat) : Nat → Nat
  | 0 => 0
  | k + 1 => em_sm f k + f k
theorem em_sm_le {f : Nat → Nat} {m : Nat} (h : ∀ b, f b ≤ m) (k : Nat) : em_sm f k ≤ k * m := by
  induction k with
  | zero => exact Nat.zero_le _
  | succ k ih =>
    rw [em_sm, Nat.succ_mul]
    have := h k
    omega
def em_chN (P : em_Pl) (Y : em_Nt) (b : Nat) : Nat := (em_chc P Y b).toNatClampNeg
def em_csN (P : em_Pl) (Y : em_Nt) (b : Nat) : Nat := (em_cst1 P Y b).toNatClampNeg
theorem em_clN {x b : Int32} {m : Nat} (hm : m < 2 ^ 31) (hb : b = nI m) : nI (em_cl x 0 b).toNatClampNeg = em_cl x 0 b ∧ (em_cl x 0 b).toNatClampNeg ≤ m := by
  subst hb
  have h1 : 0 ≤ em_cl x 0 (nI m) := by
    unfold em_cl
    split
    · exact Int32.le_refl _
    · split
      · exact nI_pos' hm
      · rename_i q _
        exact Int32.not_lt.mp q
  have h2 : em_cl x 0 (nI m) ≤ nI m := by
    unfold em_cl
    split
    · exact nI_pos' hm
    · split
      · exact Int32.le_refl _
      · rename_i q
        exact Int32.not_lt.mp q
  obtain ⟨s, g1, g2, g3⟩ := em_nat hm h1 h2
  rw [g3]
  exact ⟨g2.symm, g1⟩
theorem em_chN_ok (P : em_Pl) (Y : em_Nt) (b : Nat) : nI (em_chN P Y b) = em_chc P Y b ∧ em_chN P Y b ≤ 100 := em_clN (m := 100) (by decide) rfl
theorem em_csN_ok (P : em_Pl) (Y : em_Nt) (b : Nat) : nI (em_csN P Y b) = em_cst1 P Y b ∧ em_csN P Y b ≤ 99 := em_clN (m := 99) (by decide) rfl
/-- the coldest hour so far -/
def em_chw (P : em_Pl) (X : em_Nt) (k : Nat) : Nat := em_sm (em_chN P (em_it P true 0 k X)) P.1
def em_cdl (P : em_Pl) (X : em_Nt) : Nat → Nat × Nat
  | 0 => (0, 0)
  | k + 1 => if (em_cdl P X k).2 < em_chw P X k then (k, em_chw P X k) else em_cdl P X k
def sp_coldest (P : em_Pl) (X : em_Nt) (w : Int32) : Int32 := if em_ok 0 1 w then (if w = 0 then nI (em_cdl P X 24).1 else nI (em_cdl P X 24).2) else -1
theorem em_chw_le {P : em_Pl} (hn : P.1 ≤ 9) (X : em_Nt) (k : Nat) : em_chw P X k ≤ 900 := by
  have h := em_sm_le (fun b => (em_chN_ok P (em_it P true 0 k X) b).2) P.1
  have : P.1 * 100 ≤ 9 * 100 := Nat.mul_le_mul_right _ hn
  unfold em_chw
  omega
theorem em_cdl_le {P : em_Pl} (hn : P.1 ≤ 9) (X : em_Nt) (k : Nat) : (em_cdl P X k).2 ≤ 900 := by
  induction k with
  | zero => exact Nat.zero_le _
  | succ k ih =>
    rw [em_cdl]
    split
    · exact em_chw_le hn X k
    · exact ih
/-- a round each hour -/
def em_rd (P : em_Pl) (X : em_Nt) : Nat → em_Nt
  | 0 => X
  | k + 1 => em_step P true 0 (2 ^ P.1 - 1, (em_rd P X k).2)
def em_rc (P : em_Pl) (X : em_Nt) (k : Nat) : Nat := em_ct P.1 (fun b => !(em_rd P X k).1.testBit b)
def em_rs (P : em_Pl) (X : em_Nt) (k : Nat) : Nat := em_sm (fun b => if (em_rd P X k).1.testBit b then 0 else em_csN P (em_rd P X k) b) P.1
def sp_round (P : em_Pl) (X : em_Nt) (n w : Int32) : Int32 := if em_ok 1 48 n ∧ em_ok 0 1 w then (if w = 0 then nI (em_sm (em_rc P X) n.toNatClampNeg) else nI (em_sm (em_rs P X) n.toNatClampNeg)) else -1
theorem em_rd_h (P : em_Pl) (X : em_Nt) (k : Nat) : (em_rd P X k).2.1 = X.2.1 + k := by
  induction k with
  | zero => rfl
  | succ k ih =>
    show (em_rd P X k).2.1 + 1 = _
    rw [ih]
    omega
section MQ5
variable {d lw lv : Nat} {P : em_Pl} {X Y : em_Nt} {I I0 : Nat → Nat → Int32} {J : Nat → Nat → Int64} {M : em_M} {Q : Option Value → em_M → Prop} {stl : Bool} {sd : Int32}
theorem me_hourS (hP : mo_Pp I lv P) (hN : mo_Nt I P Y) (hb : Y.2.1 + 1 < 1000000) (hs : I 284 50 = 1) (h : ∀ I' : Nat → Nat → Int32, em_fM I I' → mo_Pp I' lv P → mo_Nt I' P (em_step P true 0 Y) → I' 284 50 = 1 → Q none (em_SH, I', J, em_RT lw)) : em_call (d + 5) 222 [.ref 284] (em_SH, I, J, em_RT lw) Q := by
  refine me_hourGoes (stl := true) (sd := I 284 49) hP hN hb hs rfl (fun I' a1 a2 a3 _ _ _ _ => ?_)
  refine h I' a1 (hP.keep a1) ?_ a3
  rw [← em_step_still P (I 284 49)]
  exact a2
theorem me_cs (hS : mo_S I lv P X) (h : ∀ I' : Nat → Nat → Int32, em_fM I I' → mo_S I' lv P X → mo_Nt I' P X → I' 284 50 = 1 → Q none (em_SH, I', J, em_RT lw)) : em_call (d + 1) 210 [.ref 284] (em_SH, I, J, em_RT lw) Q := me_copiesStill hS.1 (fun I1 a1 a2 a3 => h I1 a1 (hS.keep a1) (hS.2.1.row hS.1.1.2.1 a2) a3)
theorem me_showBits_l (hP : mo_Pp I lv P) (hN : mo_Nt I P Y) {k m : Nat} (hk : k + m = P.1) (h : Q (some (.int (nI (em_sh P Y)))) (em_SH, I, J, em_RT lw)) : em_wp em_sc0 (d + 1) 260 4 [some (.ref 284), some (.int (nI (em_or k (fun b => decide (0 < Y.2.2 b))))), some (.int (nI k))] [] (em_SH, I, J, em_RT lw) Q := by
  have hn := hP.1.2.1
  have e27 : ∀ b, (27 : Int32) + nI b = nI (27 + b) := fun b => (em_nadd 27 b).symm
  induction m generalizing k with
  | zero =>
    have e : k = P.1 := by omega
    subst e
    iterate 2 refine em_next rfl ?_
    refine em_inv_call rfl (me_many hP ?_)
    iterate 1 refine em_next rfl ?_
    refine em_c_ge (fun _ => ?_) (fun h1 => absurd (nI_le (Nat.le_refl _) (by omega)) h1)
    iterate 1 refine em_next rfl ?_
    exact em_done rfl h
  | succ m ih =>
    iterate 2 refine em_next rfl ?_
    refine em_inv_call rfl (me_many hP ?_)
    iterate 1 refine em_next rfl ?_
    refine em_c_ge (fun h1 => absurd h1 (nI_ge (by omega) (by omega))) (fun _ => ?_)
    iterate 5 refine em_next rfl ?_
    refine em_ialk (i := 27 + nI k) (k := 27 + k) rfl rfl (by rw [e27]; exact em_in_n (by omega) (by decide)) (by rw [e27]; exact nI_clamp (by omega)) ?_
    rw [(hN.2 k (by omega)).2.2]
    iterate 1 refine em_next rfl ?_
    have g := ih (k := k + 1) (by omega)
    rw [em_or, nI_succ] at g
    refine em_z_le (fun q => ?_) (fun q => ?_)
    · rw [decide_eq_false (Int32.not_lt.mpr q), if_neg (by decide), Nat.add_zero] at g
      iterate 2 refine em_next rfl ?_
      exact g
    · rw [decide_eq_true (Int32.not_le.mp q), if_pos rfl, ← (em_join1 k (by omega) _ (em_or_lt _ _)).1] at g
      iterate 8 refine em_next rfl ?_
      exact g
theorem me_showBits (hP : mo_Pp I lv P) (hN : mo_Nt I P Y) (h : Q (some (.int (nI (em_sh P Y)))) (em_SH, I, J, em_RT lw)) : em_call (d + 1) 260 [.ref 284] (em_SH, I, J, em_RT lw) Q := by
  iterate 4 refine em_next rfl ?_
  exact me_showBits_l (k := 0) (m := P.1) hP hN (by omega) h
theorem mq_shows (hS : mo_S I lv P X) {n : Int32} (h : ∀ I' : Nat → Nat → Int32, em_fM I I' → Q (some (.int (sp_shows P X n))) (em_SH, I', J, em_RT lw)) : em_call (d + 8) 261 [.ref 284, .int n] (em_SH, I, J, em_RT lw) Q := by
  have hp9 := em_pow9 hS.1.1.2.1
  unfold sp_shows at h
  iterate 1 refine em_next rfl ?_
  refine em_inv_call rfl (me_isLong ?_)
  iterate 1 refine em_next rfl ?_
  refine em_b_ne (fun g => ?_) (fun g => ?_)
  · rw [if_pos g] at h
    obtain ⟨m, hm, rfl, em⟩ := em_nat (m := 48) (by decide) g.1 g.2
    rw [em] at h
    iterate 1 refine em_next rfl ?_
    refine em_inv_call rfl (me_cs hS (fun I1 a1 a2 a3 a4 => ?_))
    iterate 2 refine em_next rfl ?_
    refine em_inv_call rfl (me_goes (X := X) (stl := true) (sd := I1 284 49) a2.1 (mm := m) (by omega) hS.2.2 a3 a4 rfl (fun I2 b1 b2 _ _ _ _ _ => ?_))
    rw [em_it_still] at b2
    iterate 1 refine em_next rfl ?_
    refine em_inv_call rfl (me_showBits (Y := em_it P true 0 m X) (a2.1.keep b1) b2 ?_)
    have hlt : em_sh P (em_it P true 0 m X) < 2 ^ P.1 := em_or_lt _ _
    refine em_inv_call rfl (me_bits (by omega) ?_)
    exact em_done rfl (h I2 (a1.tr b1))
  · rw [if_neg g] at h
    iterate 1 refine em_next rfl ?_
    exact em_done rfl (h I em_fM.rf)
theorem me_again_l (hS : mo_S I lv P X) {k m : Nat} (hk : k + m = 240) (hN : mo_Nt I P (em_it P true 0 k X)) (hs : I 284 50 = 1) (h : ∀ I' : Nat → Nat → Int32, em_fM I I' → Q (some (.int (em_fh (fun k => decide ((em_it P true 0 k X).1 = X.1)) (k + 1) m))) (em_SH, I', J, em_RT lw)) : em_wp em_sc0 (d + 8) 263 6 [some (.ref 284), some (.int (nI (k + 1)))] [] (em_SH, I, J, em_RT lw) Q := by
  have hr := hS.2.1.1.1
  have hX := hS.2.2
  have hp9 := em_pow9 hS.1.1.2.1
  induction m generalizing k I with
  | zero =>
    have e : k = 240 := by omega
    subst e
    iterate 3 refine em_next rfl ?_
    refine em_c_gt (fun _ => ?_) (fun h1 => absurd (by decide) h1)
    iterate 1 refine em_next rfl ?_
    exact em_done rfl (h I em_fM.rf)
  | succ m ih =>
    have hh := em_it_h P true 0 k X
    iterate 3 refine em_next rfl ?_
    refine em_c_gt (fun h1 => absurd h1 (nI_nlt (a := 240) (by omega) (by decide))) (fun _ => ?_)
    iterate 1 refine em_next rfl ?_
    refine em_inv_call rfl (me_hourS hS.1 hN (by omega) hs (fun I1 a1 a2 a3 a4 => ?_))
    iterate 1 refine em_next rfl ?_
    refine em_inv_call rfl (me_rowBits a2 a3 ?_)
    iterate 1 refine em_next rfl ?_
    refine em_inv_call rfl (me_now (hS.keep a1) ?_)
    iterate 1 refine em_next rfl ?_
    have l1 : (em_it P true 0 (k + 1) X).1 < 2 ^ P.1 := em_it_lt P true 0 (k + 1) hr
    refine em_c_ne (fun q => ?_) (fun q => ?_)
    · iterate 2 refine em_next rfl ?_
      have g := ih (k := k + 1) (I := I1) (hS.keep a1) (by omega) a3 a4 (fun I' f => by
        have g := h I' (a1.tr f)
        rw [em_fh, decide_eq_false (show ¬ (em_it P true 0 (k + 1) X).1 = X.1 from fun e => q (congrArg nI e)), if_neg (by decide)] at g
        exact g)
      rw [nI_succ (k + 1)] at g
      exact g
    · have g := h I1 a1
      rw [em_fh, decide_eq_true ((nI_eq (by omega) (by omega)).mp q : (em_it P true 0 (k + 1) X).1 = X.1), if_pos rfl] at g
      iterate 1 refine em_next rfl ?_
      exact em_done rfl g
theorem mq_again (hS : mo_S I lv P X) (h : ∀ I' : Nat → Nat → Int32, em_fM I I' → Q (some (.int (sp_again P X))) (em_SH, I', J, em_RT lw)) : em_call (d + 8) 263 [.ref 284] (em_SH, I, J, em_RT lw) Q := by
  iterate 1 refine em_next rfl ?_
  refine em_inv_call rfl (me_cs hS (fun I1 a1 a2 a3 a4 => ?_))
  iterate 2 refine em_next rfl ?_
  exact me_again_l (k := 0) (m := 240) a2 (by omega) a3 a4 (fun I' f => h I' (a1.tr f))
theorem me_leave_l (hS : mo_S I lv P X) {k m b : Nat} {s : Bool} (hb : b < P.1) (hk : k + m = 240) (hN : mo_Nt I P (em_it P true 0 k X)) (hs : I 284 50 = 1) (h : ∀ I' : Nat → Nat → Int32, em_fM I I' → Q (some (.int (em_fh (fun k => decide (0 < (em_it P true 0 k X).2.2 b) != s) (k + 1) m))) (em_SH, I', J, em_RT lw)) : em_wp em_sc0 (d + 8) 266 34 [some (.ref 284), some (.int (nI b)), some (.int (em_bb s)), some (.int (nI (k + 1)))] [] (em_SH, I, J, em_RT lw) Q := by
  have hn := hS.1.1.2.1
  have hX := hS.2.2
  have e27 : ∀ b, (27 : Int32) + nI b = nI (27 + b) := fun b => (em_nadd 27 b).symm
  induction m generalizing k I with
  | zero =>
    have e : k = 240 := by omega
    subst e
    iterate 3 refine em_next rfl ?_
    refine em_c_gt (fun _ => ?_) (fun h1 => absurd (by decide) h1)
    iterate 1 refine em_next rfl ?_
    exact em_done rfl (h I em_fM.rf)
  | succ m ih =>
    have hh := em_it_h P true 0 k X
    iterate 3 refine em_next rfl ?_
    refine em_c_gt (fun h1 => absurd h1 (nI_nlt (a := 240) (by omega) (by decide))) (fun _ => ?_)
    iterate 1 refine em_next rfl ?_
    refine em_inv_call rfl (me_hourS hS.1 hN (by omega) hs (fun I1 a1 a2 a3 a4 => ?_))
    iterate 5 refine em_next rfl ?_
    refine em_ialk (i := 27 + nI b) (k := 27 + b) rfl rfl (by rw [e27]; exact em_in_n (by omega) (by decide)) (by rw [e27]; exact nI_clamp (by omega)) ?_
    rw [(a3.2 b hb).2.2]
    have t63 : ∀ z : Bool, z = decide (0 < (em_it P true 0 (k + 1) X).2.2 b) → em_wp em_sc0 (d + 8) 266 62 [some (.ref 284), some (.int (nI b)), some (.int (em_bb s)), some (.int (nI (k + 1)))] [.int (em_bb z)] (em_SH, I1, J, em_RT lw) Q := by
      intro z hz
      iterate 2 refine em_next rfl ?_
      refine em_c_eq (fun q => ?_) (fun q => ?_)
      · iterate 2 refine em_next rfl ?_
        have q2 : z = s := em_bb_inj.mp q
        have g := ih (k := k + 1) (I := I1) (hS.keep a1) (by omega) a3 a4 (fun I' f => by
          have g := h I' (a1.tr f)
          rw [em_fh, ← hz, q2, show (s != s) = false by cases s <;> rfl, if_neg (by decide)] at g
          exact g)
        rw [nI_succ (k + 1)] at g
        exact g
      · have q2 : (z != s) = true := by
          cases z <;> cases s <;> first | rfl | exact absurd rfl q
        have g := h I1 a1
        rw [em_fh, ← hz, q2, if_pos rfl] at g
        iterate 1 refine em_next rfl ?_
        exact em_done rfl g
    iterate 1 refine em_next rfl ?_
    refine em_z_le (fun q => ?_) (fun q => ?_)
    · iterate 1 refine em_next rfl ?_
      exact t63 false (decide_eq_false (Int32.not_lt.mpr q)).symm
    · iterate 2 refine em_next rfl ?_
      exact t63 true (decide_eq_true (Int32.not_le.mp q)).symm
theorem mq_leave (hS : mo_S I lv P X) {b : Int32} (h : ∀ I' : Nat → Nat → Int32, em_fM I I' → Q (some (.int (sp_leave P X b))) (em_SH, I', J, em_RT lw)) : em_call (d + 8) 266 [.ref 284, .int b] (em_SH, I, J, em_RT lw) Q := by
  have hn := hS.1.1.2.1
  have e27 : ∀ b, (27 : Int32) + nI b = nI (27 + b) := fun b => (em_nadd 27 b).symm
  unfold sp_leave at h
  iterate 2 refine em_next rfl ?_
  refine em_inv_call rfl (me_bedQ hS ?_)
  iterate 1 refine em_next rfl ?_
  refine em_b_ne (fun g => ?_) (fun g => ?_)
  · rw [if_pos g] at h
    obtain ⟨s, hs, rfl, es⟩ := em_bedN hn g
    rw [es] at h
    iterate 1 refine em_next rfl ?_
    refine em_inv_call rfl (me_cs hS (fun I1 a1 a2 a3 a4 => ?_))
    iterate 5 refine em_next rfl ?_
    refine em_ialk (i := 27 + nI s) (k := 27 + s) rfl rfl (by rw [e27]; exact em_in_n (by omega) (by decide)) (by rw [e27]; exact nI_clamp (by omega)) ?_
    rw [(a3.2 s hs).2.2]
    iterate 1 refine em_next rfl ?_
    refine em_z_le (fun q => ?_) (fun q => ?_)
    · iterate 4 refine em_next rfl ?_
      rw [decide_eq_false (Int32.not_lt.mpr q)] at h
      exact me_leave_l (k := 0) (m := 240) (s := false) a2 hs (by omega) a3 a4 (fun I' f => h I' (a1.tr f))
    · iterate 5 refine em_next rfl ?_
      rw [decide_eq_true (Int32.not_le.mp q)] at h
      exact me_leave_l (k := 0) (m := 240) (s := true) a2 hs (by omega) a3 a4 (fun I' f => h I' (a1.tr f))
  · rw [if_neg g] at h
    iterate 1 refine em_next rfl ?_
    exact em_done rfl (h I em_fM.rf)
theorem me_then_2 (hS : mo_S I lv P X) (hsd : I 301 lv = sd) {b n w : Int32} (g1 : em_ok 0 48 n) (g2 : em_ok 0 2 w) (g3 : w < 2 → em_okB P b) (h : ∀ I' : Nat → Nat → Int32, em_fM I I' → Q (some (.int (sp_then P X sd b n w))) (em_SH, I', J, em_RT lw)) : em_wp em_sc0 (d + 8) 267 33 [some (.ref 284), some (.int (b)), some (.int (n)), some (.int (w))] [] (em_SH, I, J, em_RT lw) Q := by
  have hn := hS.1.1.2.1
  have hp9 := em_pow9 hn
  have e27 : ∀ b, (27 : Int32) + nI b = nI (27 + b) := fun b => (em_nadd 27 b).symm
  unfold sp_then at h
  rw [if_pos ⟨g1, g2, g3⟩] at h
  obtain ⟨m, hm, rfl, em⟩ := em_nat (m := 48) (by decide) g1.1 g1.2
  rw [em] at h
  iterate 1 refine em_next rfl ?_
  refine em_inv_call rfl (me_copies hS.1 (fun I1 a1 a2 a3 a4 => ?_))
  iterate 2 refine em_next rfl ?_
  refine em_inv_call rfl (me_goes (X := X) (stl := false) (sd := sd) (hS.keep a1).1 (mm := m) (by omega) hS.2.2 (hS.2.1.row hn a2) a4 (a3.trans hsd) (fun I2 b1 b2 _ _ _ _ _ => ?_))
  have hg := h I2 (a1.tr b1)
  iterate 2 refine em_next rfl ?_
  refine em_z_ne (fun q => ?_) (fun q => ?_)
  · rw [if_neg q] at hg
    iterate 3 refine em_next rfl ?_
    refine em_c_ne (fun q2 => ?_) (fun q2 => ?_)
    · rw [if_neg (show ¬ w = 1 from q2)] at hg
      iterate 1 refine em_next rfl ?_
      refine em_inv_call rfl (me_rowBits ((hS.keep a1).1.keep b1) b2 ?_)
      have l1 : (em_it P false sd m X).1 < 2 ^ P.1 := b2.1.1
      refine em_inv_call rfl (me_bits (by omega) ?_)
      exact em_done rfl hg
    · rw [if_pos (show w = 1 from q2)] at hg
      subst q2
      obtain ⟨s, hs, rfl, es⟩ := em_bedN hn (g3 (by decide))
      rw [es] at hg
      iterate 5 refine em_next rfl ?_
      refine em_ialk (i := 27 + nI s) (k := 27 + s) rfl rfl (by rw [e27]; exact em_in_n (by omega) (by decide)) (by rw [e27]; exact nI_clamp (by omega)) ?_
      rw [(b2.2 s hs).2.2]
      iterate 1 refine em_next rfl ?_
      exact em_done rfl hg
  · rw [if_pos q] at hg
    subst q
    obtain ⟨s, hs, rfl, es⟩ := em_bedN hn (g3 (by decide))
    rw [es] at hg
    iterate 3 refine em_next rfl ?_
    refine em_ialn (k := s) rfl rfl (by omega) (by decide) ?_
    rw [(b2.2 s hs).1]
    iterate 1 refine em_next rfl ?_
    exact em_done rfl hg
theorem mq_then (hS : mo_S I lv P X) (hsd : I 301 lv = sd) {b n w : Int32} (h : ∀ I' : Nat → Nat → Int32, em_fM I I' → Q (some (.int (sp_then P X sd b n w))) (em_SH, I', J, em_RT lw)) : em_call (d + 8) 267 [.ref 284, .int b, .int n, .int w] (em_SH, I, J, em_RT lw) Q := by
  have h0 := h
  unfold sp_then at h
  iterate 1 refine em_next rfl ?_
  refine em_inv_call rfl (me_isLong ?_)
  iterate 1 refine em_next rfl ?_
  refine em_b_eq (fun g => ?_) (fun g => ?_)
  · rw [if_neg (fun q => g q.1)] at h
    iterate 1 refine em_next rfl ?_
    exact em_done rfl (h I em_fM.rf)
  iterate 3 refine em_next rfl ?_
  refine em_inv_call rfl (me_inQ (a := 0) (b := 2) ?_)
  iterate 1 refine em_next rfl ?_
  refine em_b_eq (fun g2 => ?_) (fun g2 => ?_)
  · rw [if_neg (fun q => g2 q.2.1)] at h
    iterate 1 refine em_next rfl ?_
    exact em_done rfl (h I em_fM.rf)
  iterate 3 refine em_next rfl ?_
  refine em_c_ge (fun g3 => ?_) (fun g3 => ?_)
  · exact me_then_2 hS hsd g g2 (fun q => absurd q (Int32.not_lt.mpr g3)) h0
  · iterate 2 refine em_next rfl ?_
    refine em_inv_call rfl (me_bedQ hS ?_)
    iterate 1 refine em_next rfl ?_
    refine em_b_ne (fun g4 => ?_) (fun g4 => ?_)
    · exact me_then_2 hS hsd g g2 (fun _ => g4) h0
    · rw [if_neg (fun q => g4 (q.2.2 (Int32.not_le.mp g3)))] at h
      iterate 1 refine em_next rfl ?_
      exact em_done rfl (h I em_fM.rf)
theorem me_year_l (hS : mo_S I lv P X) (hsd : I 301 lv = sd) {n s k m : Nat} (hnn : n ≤ 48) (hss : s ≤ 20) (hk : k + m = s) (h : ∀ I' : Nat → Nat → Int32, em_fM I I' → Q (some (.int (nI (em_ct s (em_yr P X sd n))))) (em_SH, I', J, em_RT lw)) : em_wp em_sc0 (d + 8) 268 24 [some (.ref 284), some (.int (nI n)), some (.int (nI s)), some (.int (nI (em_ct k (em_yr P X sd n)))), some (.int (nI k))] [] (em_SH, I, J, em_RT lw) Q := by
  have hn := hS.1.1.2.1
  have hp9 := em_pow9 hn
  have hp := Nat.two_pow_pos P.1
  induction m generalizing k I with
  | zero =>
    have e : k = s := by omega
    subst e
    iterate 3 refine em_next rfl ?_
    refine em_c_ge (fun _ => ?_) (fun h1 => absurd (nI_le (Nat.le_refl _) (by omega)) h1)
    iterate 1 refine em_next rfl ?_
    exact em_done rfl (h I em_fM.rf)
  | succ m ih =>
    iterate 3 refine em_next rfl ?_
    refine em_c_ge (fun h1 => absurd h1 (nI_ge (by omega) (by omega))) (fun _ => ?_)
    iterate 1 refine em_next rfl ?_
    refine em_inv_call rfl (me_copies hS.1 (fun I1 a1 a2 a3 a4 => ?_))
    iterate 8 refine em_next rfl ?_
    have f1 : em_fM I1 (em_u I1 284 49 (I1 284 49 + nI k)) := fun a j g1 g2 => if_neg (fun q => g2 ⟨q.1, by rw [q.2]; decide⟩)
    have hS2 := (hS.keep a1).keep f1
    refine em_inv_call rfl (me_goes (I := em_u I1 284 49 (I1 284 49 + nI k)) (X := X) (stl := false) (sd := sd + nI k) hS2.1 (mm := n) (by omega) hS.2.2 (hS.2.1.row hn (fun j hj => by rw [em_u_row (by decide)]; exact a2 j hj)) (by rw [em_u_ne (by decide)]; exact a4) (by rw [em_u_self, a3, hsd]) (fun I2 b1 b2 _ _ _ _ _ => ?_))
    have f2 := (a1.tr f1).tr b1
    iterate 1 refine em_next rfl ?_
    refine em_inv_call rfl (me_rowBits (hS2.1.keep b1) b2 ?_)
    iterate 1 refine em_next rfl ?_
    refine em_inv_call rfl (me_allBits (hS2.1.keep b1) ?_)
    iterate 1 refine em_next rfl ?_
    have l1 : (em_it P false (sd + nI k) n X).1 < 2 ^ P.1 := b2.1.1
    have g := ih (k := k + 1) (I := I2) (hS.keep f2) ((f2 _ _ (by decide) (fun q => absurd q.1 (by decide))).trans hsd) (by omega) (fun I' f => h I' (f2.tr f))
    rw [show em_ct (k + 1) (em_yr P X sd n) = em_ct k (em_yr P X sd n) + (if em_yr P X sd n k then 1 else 0) from rfl, nI_succ] at g
    refine em_c_ne (fun q => ?_) (fun q => ?_)
    · have e : em_yr P X sd n k = false := decide_eq_false (fun e => q (congrArg nI e))
      rw [e, if_neg (by decide), Nat.add_zero] at g
      iterate 2 refine em_next rfl ?_
      exact g
    · have e : em_yr P X sd n k = true := decide_eq_true ((nI_eq (by omega) (by omega)).mp q)
      rw [e, if_pos rfl, nI_succ] at g
      iterate 3 refine em_next rfl ?_
      exact g
theorem mq_year (hS : mo_S I lv P X) (hsd : I 301 lv = sd) {n s : Int32} (h : ∀ I' : Nat → Nat → Int32, em_fM I I' → Q (some (.int (sp_year P X sd n s))) (em_SH, I', J, em_RT lw)) : em_call (d + 8) 268 [.ref 284, .int n, .int s] (em_SH, I, J, em_RT lw) Q := by
  unfold sp_year at h
  iterate 1 refine em_next rfl ?_
  refine em_inv_call rfl (me_isLong ?_)
  iterate 1 refine em_next rfl ?_
  refine em_b_eq (fun g => ?_) (fun g => ?_)
  · rw [if_neg (fun q => g q.1)] at h
    iterate 1 refine em_next rfl ?_
    exact em_done rfl (h I em_fM.rf)
  iterate 3 refine em_next rfl ?_
  refine em_inv_call rfl (me_inQ (a := 1) (b := 20) ?_)
  iterate 1 refine em_next rfl ?_
  refine em_b_ne (fun g2 => ?_) (fun g2 => ?_)
  · rw [if_pos ⟨g, g2⟩] at h
    obtain ⟨m, hm, rfl, em⟩ := em_nat (m := 48) (by decide) g.1 g.2
    obtain ⟨t, ht, rfl, et⟩ := em_nat (m := 20) (by decide) (Int32.le_trans (by decide) g2.1) g2.2
    rw [em, et] at h
    iterate 4 refine em_next rfl ?_
    exact me_year_l (k := 0) (m := t) (n := m) hS hsd (by omega) (by omega) (by omega) h
  · rw [if_neg (fun q => g2 q.2)] at h
    iterate 1 refine em_next rfl ?_
    exact em_done rfl (h I em_fM.rf)
theorem me_cold_b (hS : mo_S I lv P X) (hN : mo_Nt I P Y) {w x1 x2 : Int32} {t k m : Nat} (hs : I 284 50 = 1) (hk : k + m = P.1) (h : ∀ I' : Nat → Nat → Int32, em_fM I I' → mo_Nt I' P Y → I' 284 50 = 1 → em_wp em_sc0 (d + 8) 247 61 [some (.ref 284), some (.int (w)), some (.int (x1)), some (.int (x2)), some (.int (nI t)), some (.int (nI (em_sm (em_chN P Y) P.1))), some (.int (nI P.1))] [] (em_SH, I', J, em_RT lw) Q) : em_wp em_sc0 (d + 8) 247 35 [some (.ref 284), some (.int (w)), some (.int (x1)), some (.int (x2)), some (.int (nI t)), some (.int (nI (em_sm (em_chN P Y) k))), some (.int (nI k))] [] (em_SH, I, J, em_RT lw) Q := by
  have hn := hS.1.1.2.1
  induction m generalizing k I with
  | zero =>
    have e : k = P.1 := by omega
    subst e
    iterate 2 refine em_next rfl ?_
    refine em_inv_call rfl (me_many hS.1 ?_)
    iterate 1 refine em_next rfl ?_
    refine em_c_ge (fun _ => ?_) (fun h1 => absurd (nI_le (Nat.le_refl _) (by omega)) h1)
    exact h I em_fM.rf hN hs
  | succ m ih =>
    iterate 2 refine em_next rfl ?_
    refine em_inv_call rfl (me_many hS.1 ?_)
    iterate 1 refine em_next rfl ?_
    refine em_c_ge (fun h1 => absurd h1 (nI_ge (by omega) (by omega))) (fun _ => ?_)
    iterate 3 refine em_next rfl ?_
    refine em_inv_call rfl (me_chillsOf hS.1 hN (b := k) (by omega) (fun I1 a1 => ?_))
    iterate 4 refine em_next rfl ?_
    have g := ih (k := k + 1) (I := I1) (hS.keep a1.M) (hN.keep (a1.row (by decide) (by decide) (by decide))) ((a1 _ _ (by decide) (by decide) (by decide)).trans hs) (by omega) (fun I' f => h I' (a1.M.tr f))
    rw [em_sm, em_nadd, (em_chN_ok P Y k).1, nI_succ] at g
    exact g
theorem me_cold_l (hS : mo_S I lv P X) {w : Int32} {k m : Nat} {o1 o2 : Option Value} (hk : k + m = 24) (hN : mo_Nt I P (em_it P true 0 k X)) (hs : I 284 50 = 1) (h : ∀ I' : Nat → Nat → Int32, em_fM I I' → Q (some (.int (if w = 0 then nI (em_cdl P X 24).1 else nI (em_cdl P X 24).2))) (em_SH, I', J, em_RT lw)) : em_wp em_sc0 (d + 8) 247 22 [some (.ref 284), some (.int (w)), some (.int (nI (em_cdl P X k).1)), some (.int (nI (em_cdl P X k).2)), some (.int (nI k)), o1, o2] [] (em_SH, I, J, em_RT lw) Q := by
  have hn := hS.1.1.2.1
  have hX := hS.2.2
  induction m generalizing k I o1 o2 with
  | zero =>
    have e : k = 24 := by omega
    subst e
    iterate 3 refine em_next rfl ?_
    refine em_c_ge (fun _ => ?_) (fun h1 => absurd (by decide) h1)
    iterate 2 refine em_next rfl ?_
    have g := h I em_fM.rf
    refine em_z_ne (fun z => ?_) (fun z => ?_)
    · rw [if_neg z] at g
      iterate 1 refine em_next rfl ?_
      exact em_done rfl g
    · rw [if_pos z] at g
      iterate 2 refine em_next rfl ?_
      exact em_done rfl g
  | succ m ih =>
    have hh := em_it_h P true 0 k X
    iterate 3 refine em_next rfl ?_
    refine em_c_ge (fun h1 => absurd h1 (nI_ge (b := 24) (by omega) (by decide))) (fun _ => ?_)
    iterate 4 refine em_next rfl ?_
    refine me_cold_b (Y := em_it P true 0 k X) (k := 0) (m := P.1) hS hN hs (by omega) (fun I1 a1 a2 a3 => ?_)
    iterate 1 refine em_next rfl ?_
    refine em_inv_call rfl (me_hourS (hS.keep a1).1 a2 (by omega) a3 (fun I2 b1 b2 b3 b4 => ?_))
    iterate 3 refine em_next rfl ?_
    have f2 := a1.tr b1
    have g := ih (k := k + 1) (I := I2) (o1 := some (.int (nI (em_chw P X k)))) (o2 := some (.int (nI P.1))) (hS.keep f2) (by omega) b3 b4 (fun I' f => h I' (f2.tr f))
    rw [em_cdl, nI_succ] at g
    have m1 := em_chw_le hn X k
    have m2 := em_cdl_le hn X k
    refine em_c_gt (fun q => ?_) (fun q => ?_)
    · rw [if_pos ((nI_ltI (by omega) (by omega)).mp q : (em_cdl P X k).2 < em_chw P X k)] at g
      iterate 6 refine em_next rfl ?_
      exact g
    · rw [if_neg (fun z : (em_cdl P X k).2 < em_chw P X k => q ((nI_ltI (a := (em_cdl P X k).2) (b := em_chw P X k) (by omega) (by omega)).mpr z))] at g
      iterate 3 refine em_next rfl ?_
      exact g
theorem mq_coldest (hS : mo_S I lv P X) {w : Int32} (h : ∀ I' : Nat → Nat → Int32, em_fM I I' → Q (some (.int (sp_coldest P X w))) (em_SH, I', J, em_RT lw)) : em_call (d + 8) 247 [.ref 284, .int w] (em_SH, I, J, em_RT lw) Q := by
  unfold sp_coldest at h
  iterate 3 refine em_next rfl ?_
  refine em_inv_call rfl (me_inQ (a := 0) (b := 1) ?_)
  iterate 1 refine em_next rfl ?_
  refine em_b_ne (fun g => ?_) (fun g => ?_)
  · rw [if_pos g] at h
    iterate 1 refine em_next rfl ?_
    refine em_inv_call rfl (me_cs hS (fun I1 a1 a2 a3 a4 => ?_))
    iterate 6 refine em_next rfl ?_
    exact me_cold_l (k := 0) (m := 24) a2 (by omega) a3 a4 (fun I' f => h I' (a1.tr f))
  · rw [if_neg g] at h
    iterate 1 refine em_next rfl ?_
    exact em_done rfl (h I em_fM.rf)
theorem me_round_b (hS : mo_S I lv P X) (hN : mo_Nt I P Y) {n w : Int32} {c s t k m : Nat} (hs : I 284 50 = 1) (hk : k + m = P.1) (h : ∀ I' : Nat → Nat → Int32, em_fM I I' → mo_Nt I' P Y → I' 284 50 = 1 → em_wp em_sc0 (d + 8) 245 85 [some (.ref 284), some (.int (n)), some (.int (w)), some (.int (nI (c + em_ct P.1 (fun b => !Y.1.testBit b)))), some (.int (nI (s + em_sm (fun b => if Y.1.testBit b then 0 else em_csN P Y b) P.1))), some (.int (nI t)), some (.int (nI P.1))] [] (em_SH, I', J, em_RT lw) Q) : em_wp em_sc0 (d + 8) 245 42 [some (.ref 284), some (.int (n)), some (.int (w)), some (.int (nI (c + em_ct k (fun b => !Y.1.testBit b)))), some (.int (nI (s + em_sm (fun b => if Y.1.testBit b then 0 else em_csN P Y b) k))), some (.int (nI t)), some (.int (nI k))] [] (em_SH, I, J, em_RT lw) Q := by
  have hn := hS.1.1.2.1
  induction m generalizing k I with
  | zero =>
    have e : k = P.1 := by omega
    subst e
    iterate 2 refine em_next rfl ?_
    refine em_inv_call rfl (me_many hS.1 ?_)
    iterate 1 refine em_next rfl ?_
    refine em_c_ge (fun _ => ?_) (fun h1 => absurd (nI_le (Nat.le_refl _) (by omega)) h1)
    exact h I em_fM.rf hN hs
  | succ m ih =>
    iterate 2 refine em_next rfl ?_
    refine em_inv_call rfl (me_many hS.1 ?_)
    iterate 1 refine em_next rfl ?_
    refine em_c_ge (fun h1 => absurd h1 (nI_ge (by omega) (by omega))) (fun _ => ?_)
    iterate 3 refine em_next rfl ?_
    refine em_ialn (k := k) rfl rfl (by omega) (by decide) ?_
    rw [(hN.2 k (by omega)).1, em_bit_bb]
    iterate 2 refine em_next rfl ?_
    cases e : Y.1.testBit k with
    | true =>
      refine em_c_ne (fun q => absurd rfl q) (fun _ => ?_)
      have g := ih (k := k + 1) (I := I) hS hN hs (by omega) h
      rw [em_ct, em_sm, e, if_neg (by decide), if_pos rfl, Nat.add_zero, Nat.add_zero, nI_succ] at g
      iterate 3 refine em_next rfl ?_
      exact g
    | false =>
      refine em_c_ne (fun _ => ?_) (fun q => absurd q (by decide))
      iterate 4 refine em_next rfl ?_
      refine em_inv_call rfl (me_costsOf hS.1 hN (b := k) (by omega) (fun I1 a1 => ?_))
      iterate 4 refine em_next rfl ?_
      have g := ih (k := k + 1) (I := I1) (hS.keep a1.M) (hN.keep (a1.row (by decide) (by decide) (by decide))) ((a1 _ _ (by decide) (by decide) (by decide)).trans hs) (by omega) (fun I' f => h I' (a1.M.tr f))
      rw [em_ct, em_sm, e, if_pos (by decide), if_neg (by decide), ← Nat.add_assoc, ← Nat.add_assoc, em_nadd (_ + em_sm _ _), (em_csN_ok P Y k).1, nI_succ, nI_succ] at g
      exact g
theorem me_round_l (hS : mo_S I lv P X) {w : Int32} {n k m : Nat} {o : Option Value} (hnn : n ≤ 48) (hk : k + m = n) (hN : mo_Nt I P (em_rd P X k)) (hs : I 284 50 = 1) (h : ∀ I' : Nat → Nat → Int32, em_fM I I' → Q (some (.int (if w = 0 then nI (em_sm (em_rc P X) n) else nI (em_sm (em_rs P X) n)))) (em_SH, I', J, em_RT lw)) : em_wp em_sc0 (d + 8) 245 33 [some (.ref 284), some (.int (nI n)), some (.int (w)), some (.int (nI (em_sm (em_rc P X) k))), some (.int (nI (em_sm (em_rs P X) k))), some (.int (nI k)), o] [] (em_SH, I, J, em_RT lw) Q := by
  have hn := hS.1.1.2.1
  have hX := hS.2.2
  have hp := Nat.two_pow_pos P.1
  induction m generalizing k I o with
  | zero =>
    have e : k = n := by omega
    subst e
    iterate 3 refine em_next rfl ?_
    refine em_c_ge (fun _ => ?_) (fun h1 => absurd (nI_le (Nat.le_refl _) (by omega)) h1)
    iterate 2 refine em_next rfl ?_
    have g := h I em_fM.rf
    refine em_z_ne (fun z => ?_) (fun z => ?_)
    · rw [if_neg z] at g
      iterate 1 refine em_next rfl ?_
      exact em_done rfl g
    · rw [if_pos z] at g
      iterate 2 refine em_next rfl ?_
      exact em_done rfl g
  | succ m ih =>
    have hh := em_rd_h P X k
    iterate 3 refine em_next rfl ?_
    refine em_c_ge (fun h1 => absurd h1 (nI_ge (by omega) (by omega))) (fun _ => ?_)
    iterate 2 refine em_next rfl ?_
    refine me_round_b (Y := em_rd P X k) (c := em_sm (em_rc P X) k) (s := em_sm (em_rs P X) k) (k := 0) (m := P.1) hS hN hs (by omega) (fun I1 a1 a2 a3 => ?_)
    iterate 2 refine em_next rfl ?_
    refine em_inv_call rfl (me_allBits (hS.keep a1).1 ?_)
    refine em_inv_call rfl (me_laysRow (hS.keep a1).1 (s := 2 ^ P.1 - 1) (by omega) (fun I2 b1 b2 b3 => ?_))
    have f2 : em_fM I1 I2 := em_fM.row (a := 315) (by decide) b1
    have hN2 : mo_Nt I2 P (2 ^ P.1 - 1, (em_rd P X k).2) := ⟨⟨show 2 ^ P.1 - 1 < 2 ^ P.1 by omega, a2.1.2.1, (b3 45 (by omega)).trans a2.1.2.2⟩, fun b hb => ⟨b2 b hb, (b3 _ (by omega)).trans (a2.2 b hb).2.1, (b3 _ (by omega)).trans (a2.2 b hb).2.2⟩⟩
    iterate 1 refine em_next rfl ?_
    refine em_inv_call rfl (me_hourS ((hS.keep a1).keep f2).1 hN2 (by dsimp only; omega) (by rw [b1 _ (by decide)]; exact a3) (fun I3 c1 c2 c3 c4 => ?_))
    iterate 2 refine em_next rfl ?_
    have f3 := (a1.tr f2).tr c1
    have g := ih (k := k + 1) (I := I3) (o := some (.int (nI P.1))) (hS.keep f3) (by omega) c3 c4 (fun I' f => h I' (f3.tr f))
    rw [em_sm, em_sm, nI_succ] at g
    exact g
theorem mq_round (hS : mo_S I lv P X) {n w : Int32} (h : ∀ I' : Nat → Nat → Int32, em_fM I I' → Q (some (.int (sp_round P X n w))) (em_SH, I', J, em_RT lw)) : em_call (d + 8) 245 [.ref 284, .int n, .int w] (em_SH, I, J, em_RT lw) Q := by
  unfold sp_round at h
  iterate 3 refine em_next rfl ?_
  refine em_inv_call rfl (me_inQ (a := 1) (b := 48) ?_)
  iterate 1 refine em_next rfl ?_
  refine em_b_eq (fun g => ?_) (fun g => ?_)
  · rw [if_neg (fun q => g q.1)] at h
    iterate 1 refine em_next rfl ?_
    exact em_done rfl (h I em_fM.rf)
  iterate 3 refine em_next rfl ?_
  refine em_inv_call rfl (me_inQ (a := 0) (b := 1) ?_)
  iterate 1 refine em_next rfl ?_
  refine em_b_ne (fun g2 => ?_) (fun g2 => ?_)
  · rw [if_pos ⟨g, g2⟩] at h
    obtain ⟨m, hm, rfl, em⟩ := em_nat (m := 48) (by decide) (Int32.le_trans (by decide) g.1) g.2
    rw [em] at h
    iterate 1 refine em_next rfl ?_
    refine em_inv_call rfl (me_cs hS (fun I1 a1 a2 a3 a4 => ?_))
    iterate 6 refine em_next rfl ?_
    exact me_round_l (k := 0) (m := m) (n := m) a2 (by omega) (by omega) a3 a4 (fun I' f => h I' (a1.tr f))
  · rw [if_neg (fun q => g2 q.2)] at h
    iterate 1 refine em_next rfl ?_
    exact em_done rfl (h I em_fM.rf)
theorem em_un_s (r : Nat) (k : Nat) : em_ct (k + 1) (fun b => r.testBit (b + 1) != r.testBit b) = em_ct k (fun b => r.testBit (b + 1) != r.testBit b) + (if (r.testBit (k + 1) != r.testBit k) then 1 else 0) := rfl
theorem mq_unlike_l (hS : mo_S I lv P X) {k m : Nat} (hk : k + m = P.1 - 1) (h : Q (some (.int (sp_unlike P X))) (em_SH, I, J, em_RT lw)) : em_wp em_sc0 (d + 2) 251 4 [some (.ref 284), some (.int (nI (em_ct k (fun b => X.1.testBit (b + 1) != X.1.testBit b)))), some (.int (nI (k + 1)))] [] (em_SH, I, J, em_RT lw) Q := by
  have hn := hS.1.1.2.1
  obtain ⟨p1, p2, p3, p4, p5⟩ := hS.1.1
  induction m generalizing k with
  | zero =>
    have e : k = P.1 - 1 := by omega
    subst e
    iterate 2 refine em_next rfl ?_
    refine em_inv_call rfl (me_many hS.1 ?_)
    iterate 1 refine em_next rfl ?_
    refine em_c_ge (fun _ => ?_) (fun h1 => absurd (nI_le (by omega) (by omega)) h1)
    unfold sp_unlike em_un at h
    iterate 4 refine em_next rfl ?_
    refine em_ialk (i := I 284 18) (k := lv) rfl rfl (by rw [p3]; exact em_in_n p1 (by decide)) (by rw [p3]; exact nI_clamp (by omega)) ?_
    rw [p5]
    iterate 2 refine em_next rfl ?_
    cases er : P.2.1 with
    | false =>
      rw [er, if_neg (fun q => absurd q.1 (by decide)), Nat.add_zero] at h
      refine em_c_ne (fun _ => ?_) (fun q => absurd q (by decide))
      iterate 1 refine em_next rfl ?_
      exact em_done rfl h
    | true =>
      rw [er] at h
      refine em_c_ne (fun q => absurd rfl q) (fun _ => ?_)
      iterate 1 refine em_next rfl ?_
      refine em_inv_call rfl (me_many hS.1 ?_)
      iterate 2 refine em_next rfl ?_
      refine em_c_le (fun q => ?_) (fun q => ?_)
      · have q2 : P.1 ≤ 2 := (nI_leI (b := 2) (by omega) (by decide)).mp q
        rw [if_neg (fun z => absurd z.2.1 (by omega)), Nat.add_zero] at h
        iterate 1 refine em_next rfl ?_
        exact em_done rfl h
      · have q2 : ¬ P.1 ≤ 2 := fun z => q ((nI_leI (b := 2) (by omega) (by decide)).mpr z)
        iterate 3 refine em_next rfl ?_
        refine em_ialk (k := 0) rfl rfl (by decide) rfl ?_
        rw [(hS.2.1.2 0 (by omega)).1]
        iterate 3 refine em_next rfl ?_
        refine em_inv_call rfl (me_many hS.1 ?_)
        iterate 2 refine em_next rfl ?_
        refine em_ialk (i := nI P.1 - 1) (k := P.1 - 1) rfl rfl (by rw [em_pred (by omega)]; exact em_in_n (by omega) (by decide)) (by rw [em_pred (by omega)]; exact nI_clamp (by omega)) ?_
        rw [(hS.2.1.2 (P.1 - 1) (by omega)).1]
        iterate 1 refine em_next rfl ?_
        refine em_c_eq (fun q3 => ?_) (fun q3 => ?_)
        · rw [if_neg (fun z => z.2.2 (em_bit_eq.mp q3)), Nat.add_zero] at h
          iterate 1 refine em_next rfl ?_
          exact em_done rfl h
        · rw [if_pos ⟨rfl, by omega, fun z => q3 (em_bit_eq.mpr z)⟩, nI_succ] at h
          iterate 2 refine em_next rfl ?_
          exact em_done rfl h
  | succ m ih =>
    iterate 2 refine em_next rfl ?_
    refine em_inv_call rfl (me_many hS.1 ?_)
    iterate 1 refine em_next rfl ?_
    refine em_c_ge (fun h1 => absurd h1 (nI_ge (by omega) (by omega))) (fun _ => ?_)
    iterate 3 refine em_next rfl ?_
    refine em_ialn (k := k + 1) rfl rfl (by omega) (by decide) ?_
    rw [(hS.2.1.2 (k + 1) (by omega)).1]
    iterate 5 refine em_next rfl ?_
    refine em_ialk (i := nI (k + 1) - 1) (k := k) rfl rfl (by rw [nI_pred]; exact em_in_n (by omega) (by decide)) (by rw [nI_pred]; exact nI_clamp (by omega)) ?_
    rw [(hS.2.1.2 k (by omega)).1]
    iterate 1 refine em_next rfl ?_
    have g := ih (k := k + 1) (by omega)
    rw [em_un_s, nI_succ (k + 1)] at g
    refine em_c_eq (fun q => ?_) (fun q => ?_)
    · rw [em_bit_eq.mp q, show (X.1.testBit k != X.1.testBit k) = false by cases X.1.testBit k <;> rfl, if_neg (by decide), Nat.add_zero] at g
      iterate 2 refine em_next rfl ?_
      exact g
    · have q2 : (X.1.testBit (k + 1) != X.1.testBit k) = true := by simpa using fun z => q (em_bit_eq.mpr z)
      rw [q2, if_pos rfl, nI_succ (em_ct _ _)] at g
      iterate 3 refine em_next rfl ?_
      exact g
theorem mq_unlike (hS : mo_S I lv P X) (h : Q (some (.int (sp_unlike P X))) (em_SH, I, J, em_RT lw)) : em_call (d + 2) 251 [.ref 284] (em_SH, I, J, em_RT lw) Q := by
  iterate 4 refine em_next rfl ?_
  exact mq_unlike_l (k := 0) (m := P.1 - 1) hS (by omega) h
end MQ5

/-! the reference: runs, beds changed, whom to turn -/
/-- two beds changed -/
def ey_sw {α : Type} (v : Nat → α) (a b : Nat) (j : Nat) : α := if j = a then v b else if j = b then v a else v j
def em_swr (r a b : Nat) : Nat := em_or 9 (ey_sw (fun j => r.testBit j) a b)
def em_swP (P : em_Pl) (a b : Nat) : em_Pl := (P.1, P.2.1, P.2.2.1, P.2.2.2.1, ey_sw P.2.2.2.2 a b)
def em_swX (X : em_Nt) (a b : Nat) : em_Nt := (em_swr X.1 a b, X.2.1, ey_sw X.2.2 a b)
/-- how many lie left in the hours to come -/
def em_li (P : em_Pl) (Y : em_Nt) : Nat → Nat
  | 0 => 0
  | k + 1 => em_li P Y k + em_pc (em_it P true 0 (k + 1) Y).1
theorem em_li_le (P : em_Pl) (Y : em_Nt) (k : Nat) : em_li P Y k ≤ k * 9 := by
  induction k with
  | zero => exact Nat.zero_le _
  | succ k ih =>
    rw [em_li, Nat.succ_mul]
    have := em_pc_le (em_it P true 0 (k + 1) Y).1
    omega
def em_cbv (P : em_Pl) (X : em_Nt) (n a b : Nat) : Nat := em_li (em_swP P a b) (em_swX X a b) n
/-- the best change so far: of bed a with the beds behind it, k of them tried -/
def em_cb1 (P : em_Pl) (X : em_Nt) (n a : Nat) (s : Int32 × Nat) : Nat → Int32 × Nat
  | 0 => s
  | k + 1 => if (em_cb1 P X n a s k).2 < em_cbv P X n a (a + 1 + k) then (10 * nI a + nI (a + 1 + k), em_cbv P X n a (a + 1 + k)) else em_cb1 P X n a s k
def em_cb (P : em_Pl) (X : em_Nt) (n : Nat) : Nat → Int32 × Nat
  | 0 => (-2, em_li P X n)
  | k + 1 => em_cb1 P X n k (em_cb P X n k) (P.1 - (k + 1))
def sp_changeBest (P : em_Pl) (X : em_Nt) (n w : Int32) : Int32 := if em_ok 1 24 n ∧ em_ok 0 1 w then (if (em_cb P X n.toNatClampNeg P.1).1 < 0 ∨ w = 0 then (em_cb P X n.toNatClampNeg P.1).1 else nI (em_cb P X n.toNatClampNeg P.1).2) else -1
/-- what a set costs -/
def ey_cst (P : em_Pl) (X : em_Nt) (s : Nat) : Nat := em_sm (fun b => if s.testBit b then em_csN P X b else 0) P.1
theorem ey_cst_le {P : em_Pl} (hn : P.1 ≤ 9) (X : em_Nt) (s : Nat) : ey_cst P X s ≤ 891 := by
  have h := em_sm_le (f := fun b => if s.testBit b then em_csN P X b else 0) (m := 99) (fun b => by
    split
    · exact (em_csN_ok P X b).2
    · omega) P.1
  have : P.1 * 99 ≤ 9 * 99 := Nat.mul_le_mul_right _ hn
  unfold ey_cst
  omega
def em_hit (P : em_Pl) (X : em_Nt) (g : Int32) (n s : Nat) : Bool := decide (nI (em_R P X n (X.1 ^^^ s)) = g)
def em_bet (P : em_Pl) (X : em_Nt) (s b : Nat) : Bool := decide (ey_cst P X s < ey_cst P X b) || (decide (ey_cst P X s = ey_cst P X b) && decide (em_pc s < em_pc b))
def em_chp (P : em_Pl) (X : em_Nt) (g : Int32) (n : Nat) : Nat → Option Nat
  | 0 => none
  | k + 1 => match em_chp P X g n k with
    | none => if em_hit P X g n k then some k else none
    | some b => if em_bet P X k b && em_hit P X g n k then some k else some b
theorem em_chp_lt {P : em_Pl} {X : em_Nt} {g : Int32} {n k b : Nat} (h : em_chp P X g n k = some b) : b < k := by
  induction k generalizing b with
  | zero => cases h
  | succ k ih =>
    rw [em_chp] at h
    cases e : em_chp P X g n k with
    | none =>
      rw [e] at h
      dsimp only at h
      split at h
      · cases h; omega
      · cases h
    | some c =>
      rw [e] at h
      dsimp only at h
      have := ih e
      split at h
      · cases h; omega
      · cases h; omega
def sp_turned (P : em_Pl) (X : em_Nt) (n w : Int32) : Int32 := if em_ok 0 24 n ∧ em_ok 0 1 w then (match em_chp P X (nI (2 ^ P.1 - 1)) n.toNatClampNeg (2 ^ P.1) with
  | none => -2
  | some s => if w = 1 then nI s else nI (ey_cst P X s)) else -1
def sp_turnTo (P : em_Pl) (X : em_Nt) (a n : Int32) : Int32 := if em_okR P a ∧ em_ok 0 24 n then em_ov (ey_cst P X) (em_chp P X a n.toNatClampNeg (2 ^ P.1)) else -1
section MQ6
variable {d lw lv : Nat} {P : em_Pl} {X Y : em_Nt} {I I0 : Nat → Nat → Int32} {J : Nat → Nat → Int64} {M : em_M} {Q : Option Value → em_M → Prop} {stl : Bool} {sd : Int32}
theorem em_remN {a n : Nat} (hn : 0 < n) (hn2 : n < 2 ^ 31) (ha : a < 2 ^ 31) : nI a - nI a / nI n * nI n = nI (a % n) := by
  have h1 : (nI a).toInt = a := nI_toInt ha
  have hb : (nI n).toInt = n := nI_toInt hn2
  have hd : a / n ≤ a := Nat.div_le_self _ _
  have h2 : (nI a / nI n).toInt = ((a / n : Nat) : Int) := by
    rw [Int32.toInt_div, h1, hb]
    rw [show ((a : Int)).tdiv (n : Int) = ((a / n : Nat) : Int) from rfl]
    generalize a / n = q at hd ⊢
    rw [Int.bmod_eq_of_le] <;> omega
  have h3 : nI a / nI n = nI (a / n) := Int32.toInt_inj.mp (by rw [h2, nI_toInt (by omega)])
  rw [h3, ← em_nmul]
  have e : a = a / n * n + a % n := (Nat.div_add_mod' a n).symm
  conv => lhs; arg 1; rw [e]
  rw [em_nadd, Int32.add_comm, Int32.add_sub_cancel]
theorem me_ringAt (hS : mo_S I lv P X) {b : Nat} (h0 : 0 < P.1) (hb : b < 18) (h : Q (some (.int (em_bit X.1 (b % P.1)))) (em_SH, I, J, em_RT lw)) : em_call (d + 1) 248 [.ref 284, .int (nI b)] (em_SH, I, J, em_RT lw) Q := by
  have hn := hS.1.1.2.1
  have hl : b % P.1 < P.1 := Nat.mod_lt _ h0
  have e := em_remN (a := b) h0 (by omega) (by omega)
  iterate 4 refine em_next rfl ?_
  refine em_inv_call rfl (me_many hS.1 ?_)
  refine em_next (if_neg (nI_ne0 h0 (by omega))) ?_
  refine em_ialk (i := nI b - nI b / nI P.1 * nI P.1) (k := b % P.1) rfl rfl (by rw [e]; exact em_in_n (by omega) (by decide)) (by rw [e]; exact nI_clamp (by omega)) ?_
  rw [(hS.2.1.2 _ hl).1]
  exact em_done rfl h
theorem me_runFrom_l (hS : mo_S I lv P X) {b l m : Nat} (hb : b < P.1) (hk : l + m = P.1) (h : Q (some (.int (nI (em_rl P.1 P.2.1 X.1 b l m)))) (em_SH, I, J, em_RT lw)) : em_wp em_sc0 (d + 2) 249 29 [some (.ref 284), some (.int (nI b)), some (.int (nI (cond P.2.1 (b + P.1) P.1))), some (.int (nI (b + l)))] [] (em_SH, I, J, em_RT lw) Q := by
  have hn := hS.1.1.2.1
  have fin : ∀ l, nI (b + l) - nI b = nI l := fun l => by rw [em_nadd, Int32.add_comm, Int32.add_sub_cancel]
  induction m generalizing l with
  | zero =>
    have e : l = P.1 := by omega
    subst e
    iterate 3 refine em_next rfl ?_
    refine em_c_ge (fun _ => ?_) (fun h1 => absurd (nI_le (by cases P.2.1 <;> simp <;> omega) (by omega)) h1)
    iterate 3 refine em_next rfl ?_
    refine em_done rfl ?_
    rw [← fin] at h
    exact h
  | succ m ih =>
    iterate 3 refine em_next rfl ?_
    rw [em_rl] at h
    refine em_c_ge (fun q => ?_) (fun q => ?_)
    · have q2 : cond P.2.1 (b + P.1) P.1 ≤ b + l := (nI_leI (by cases P.2.1 <;> simp <;> omega) (by omega)).mp q
      have q3 : (P.2.1 || decide (b + l < P.1)) = false := by
        cases er : P.2.1
        · rw [er] at q2
          simp at q2 ⊢
          omega
        · rw [er] at q2
          simp at q2
          omega
      rw [q3, Bool.false_and, if_neg (by decide), ← fin] at h
      iterate 3 refine em_next rfl ?_
      exact em_done rfl h
    · have q2 : ¬ cond P.2.1 (b + P.1) P.1 ≤ b + l := fun z => q ((nI_leI (by cases P.2.1 <;> simp <;> omega) (by omega)).mpr z)
      have q3 : (P.2.1 || decide (b + l < P.1)) = true := by
        cases er : P.2.1
        · rw [er] at q2
          simp at q2 ⊢
          omega
        · rfl
      rw [q3, Bool.true_and] at h
      iterate 2 refine em_next rfl ?_
      refine em_inv_call rfl (me_ringAt hS (by omega) (by omega) ?_)
      iterate 3 refine em_next rfl ?_
      refine em_ialn (k := b) rfl rfl (by omega) (by decide) ?_
      rw [(hS.2.1.2 b hb).1]
      iterate 1 refine em_next rfl ?_
      refine em_c_ne (fun q4 => ?_) (fun q4 => ?_)
      · rw [if_neg (fun z => q4 (em_bit_eq.mpr (by simpa using z))), ← fin] at h
        iterate 3 refine em_next rfl ?_
        exact em_done rfl h
      · rw [if_pos (by simpa using em_bit_eq.mp q4)] at h
        iterate 2 refine em_next rfl ?_
        have g := ih (l := l + 1) (by omega) h
        rw [← Nat.add_assoc, nI_succ] at g
        exact g
theorem me_runFrom (hS : mo_S I lv P X) {b : Nat} (hb : b < P.1) (h : Q (some (.int (nI (em_run1 P X b)))) (em_SH, I, J, em_RT lw)) : em_call (d + 2) 249 [.ref 284, .int (nI b)] (em_SH, I, J, em_RT lw) Q := by
  obtain ⟨p1, p2, p3, p4, p5⟩ := hS.1.1
  have g := me_runFrom_l (d := d) (l := 0) (m := P.1) hS hb (by omega) h
  iterate 4 refine em_next rfl ?_
  refine em_ialk (i := I 284 18) (k := lv) rfl rfl (by rw [p3]; exact em_in_n p1 (by decide)) (by rw [p3]; exact nI_clamp (by omega)) ?_
  rw [p5]
  iterate 2 refine em_next rfl ?_
  cases er : P.2.1 with
  | false =>
    rw [er] at g
    refine em_c_ne (fun _ => ?_) (fun q => absurd q (by decide))
    iterate 1 refine em_next rfl ?_
    refine em_inv_call rfl (me_many hS.1 ?_)
    iterate 3 refine em_next rfl ?_
    exact g
  | true =>
    rw [er] at g
    refine em_c_ne (fun q => absurd rfl q) (fun _ => ?_)
    iterate 2 refine em_next rfl ?_
    refine em_inv_call rfl (me_many hS.1 ?_)
    iterate 5 refine em_next rfl ?_
    dsimp only [cond] at g
    rw [em_nadd] at g
    exact g
theorem em_run1_le (P : em_Pl) (X : em_Nt) (b : Nat) : em_run1 P X b ≤ P.1 := by
  have := em_rl_le (n := P.1) (rg := P.2.1) (r := X.1) (b := b) 0 P.1
  unfold em_run1
  omega
theorem em_run1_pos {P : em_Pl} {X : em_Nt} {b : Nat} (hb : b < P.1) : 0 < em_run1 P X b := by
  unfold em_run1
  cases e : P.1 with
  | zero => omega
  | succ n =>
    rw [em_rl, show b + 0 = b from rfl, Nat.mod_eq_of_lt (by omega), decide_eq_true (by omega : b < n + 1), Bool.or_true, Bool.true_and, if_pos (by simp)]
    have ge : ∀ l m, l ≤ em_rl (n + 1) P.2.1 X.1 b l m := by
      intro l m
      induction m generalizing l with
      | zero => exact Nat.le_refl _
      | succ m ih =>
        rw [em_rl]
        split
        · have := ih (l + 1); omega
        · exact Nat.le_refl _
    have := ge (0 + 1) n
    omega
def em_x0 (v : Nat → Nat) : Option Nat → Int32
  | none => 0
  | some b => nI (v b)
theorem me_run_l (hS : mo_S I lv P X) {w : Int32} {k m : Nat} {o : Option Value} (hk : k + m = P.1) (h : Q (some (.int (if w = 0 then em_x0 (em_run1 P X) (em_xi (em_run1 P X) P.1) else em_oi (em_xi (em_run1 P X) P.1)))) (em_SH, I, J, em_RT lw)) : em_wp em_sc0 (d + 3) 250 19 [some (.ref 284), some (.int (w)), some (.int (em_oi (em_xi (em_run1 P X) k))), some (.int (em_x0 (em_run1 P X) (em_xi (em_run1 P X) k))), some (.int (nI k)), o] [] (em_SH, I, J, em_RT lw) Q := by
  have hn := hS.1.1.2.1
  induction m generalizing k o with
  | zero =>
    have e : k = P.1 := by omega
    subst e
    iterate 2 refine em_next rfl ?_
    refine em_inv_call rfl (me_many hS.1 ?_)
    iterate 1 refine em_next rfl ?_
    refine em_c_ge (fun _ => ?_) (fun h1 => absurd (nI_le (Nat.le_refl _) (by omega)) h1)
    iterate 2 refine em_next rfl ?_
    refine em_z_ne (fun z => ?_) (fun z => ?_)
    · rw [if_neg z] at h
      iterate 1 refine em_next rfl ?_
      exact em_done rfl h
    · rw [if_pos z] at h
      iterate 2 refine em_next rfl ?_
      exact em_done rfl h
  | succ m ih =>
    iterate 2 refine em_next rfl ?_
    refine em_inv_call rfl (me_many hS.1 ?_)
    iterate 1 refine em_next rfl ?_
    refine em_c_ge (fun h1 => absurd h1 (nI_ge (by omega) (by omega))) (fun _ => ?_)
    iterate 2 refine em_next rfl ?_
    refine em_inv_call rfl (me_runFrom hS (b := k) (by omega) ?_)
    iterate 4 refine em_next rfl ?_
    have g := ih (k := k + 1) (o := some (.int (nI (em_run1 P X k)))) (by omega)
    rw [em_xi, nI_succ] at g
    have m1 := em_run1_le P X k
    have m3 := em_run1_pos (P := P) (X := X) (b := k) (by omega)
    cases e : em_xi (em_run1 P X) k with
    | none =>
      rw [e] at g
      refine em_c_gt (fun _ => ?_) (fun q => absurd (nI_lt (a := 0) m3 (by omega)) q)
      iterate 6 refine em_next rfl ?_
      exact g
    | some b =>
      rw [e] at g
      dsimp only at g
      have m2 := em_run1_le P X b
      refine em_c_gt (fun q => ?_) (fun q => ?_)
      · rw [if_pos ((nI_ltI (by omega) (by omega)).mp q)] at g
        iterate 6 refine em_next rfl ?_
        exact g
      · rw [if_neg (fun z => q ((nI_ltI (by omega) (by omega)).mpr z))] at g
        iterate 3 refine em_next rfl ?_
        exact g
theorem mq_run (hS : mo_S I lv P X) {w : Int32} (h : Q (some (.int (sp_run P X w))) (em_SH, I, J, em_RT lw)) : em_call (d + 4) 250 [.ref 284, .int w] (em_SH, I, J, em_RT lw) Q := by
  unfold sp_run at h
  iterate 3 refine em_next rfl ?_
  refine em_inv_call rfl (me_inQ (a := 0) (b := 1) ?_)
  iterate 1 refine em_next rfl ?_
  refine em_b_ne (fun g => ?_) (fun g => ?_)
  · rw [if_pos g] at h
    iterate 6 refine em_next rfl ?_
    refine me_run_l (d := d + 1) (k := 0) (m := P.1) hS (by omega) ?_
    have e : em_x0 (em_run1 P X) (em_xi (em_run1 P X) P.1) = (match em_xi (em_run1 P X) P.1 with | none => 0 | some b => nI (em_run1 P X b)) := by
      cases em_xi (em_run1 P X) P.1 <;> rfl
    rw [e]
    exact h
  · rw [if_neg g] at h
    iterate 1 refine em_next rfl ?_
    exact em_done rfl h
theorem me_leftIn_l {k0 : Nat} (hP : mo_Pp I lv P) (hN : mo_Nt I P (em_it P true 0 k0 Y)) (hY : Y.2.1 + 1000 < 1000000) {n m : Nat} (hnn : n ≤ 48) (hk : k0 + m = n) (hs : I 284 50 = 1) (h : ∀ I' : Nat → Nat → Int32, em_fM I I' → Q (some (.int (nI (em_li P Y n)))) (em_SH, I', J, em_RT lw)) : em_wp em_sc0 (d + 6) 264 4 [some (.ref 284), some (.int (nI n)), some (.int (nI (em_li P Y k0))), some (.int (nI k0))] [] (em_SH, I, J, em_RT lw) Q := by
  have hp9 := em_pow9 hP.1.2.1
  induction m generalizing k0 I with
  | zero =>
    have e : k0 = n := by omega
    subst e
    iterate 3 refine em_next rfl ?_
    refine em_c_ge (fun _ => ?_) (fun h1 => absurd (nI_le (Nat.le_refl _) (by omega)) h1)
    iterate 1 refine em_next rfl ?_
    exact em_done rfl (h I em_fM.rf)
  | succ m ih =>
    have hh := em_it_h P true 0 k0 Y
    iterate 3 refine em_next rfl ?_
    refine em_c_ge (fun h1 => absurd h1 (nI_ge (by omega) (by omega))) (fun _ => ?_)
    iterate 1 refine em_next rfl ?_
    refine em_inv_call rfl (me_hourS hP hN (by omega) hs (fun I1 a1 a2 a3 a4 => ?_))
    iterate 2 refine em_next rfl ?_
    refine em_inv_call rfl (me_rowBits a2 a3 ?_)
    have l1 : (em_it P true 0 (k0 + 1) Y).1 < 2 ^ P.1 := a3.1.1
    refine em_inv_call rfl (me_bits (s := (em_it P true 0 (k0 + 1) Y).1) (by omega) ?_)
    iterate 4 refine em_next rfl ?_
    have g := ih (k0 := k0 + 1) (I := I1) a2 a3 (by omega) a4 (fun I' f => h I' (a1.tr f))
    rw [em_li, em_nadd (em_li P Y k0), nI_succ] at g
    exact g
theorem me_leftIn (hP : mo_Pp I lv P) (hN : mo_Nt I P Y) (hY : Y.2.1 + 1000 < 1000000) {n : Nat} (hnn : n ≤ 48) (hs : I 284 50 = 1) (h : ∀ I' : Nat → Nat → Int32, em_fM I I' → Q (some (.int (nI (em_li P Y n)))) (em_SH, I', J, em_RT lw)) : em_call (d + 6) 264 [.ref 284, .int (nI n)] (em_SH, I, J, em_RT lw) Q := by
  iterate 4 refine em_next rfl ?_
  exact me_leftIn_l (k0 := 0) (m := n) hP hN hY hnn (by omega) hs h
theorem em_cb1_le {P : em_Pl} {X : em_Nt} {n a k : Nat} {s : Int32 × Nat} (hn : n ≤ 48) (hs : s.2 ≤ 432) : (em_cb1 P X n a s k).2 ≤ 432 := by
  induction k with
  | zero => exact hs
  | succ k ih =>
    rw [em_cb1]
    split
    · have := em_li_le (em_swP P a (a + 1 + k)) (em_swX X a (a + 1 + k)) n
      show em_li _ _ _ ≤ 432
      omega
    · exact ih
theorem em_cb_le {P : em_Pl} {X : em_Nt} {n k : Nat} (hn : n ≤ 48) : (em_cb P X n k).2 ≤ 432 := by
  induction k with
  | zero =>
    have := em_li_le P X n
    show em_li _ _ _ ≤ 432
    omega
  | succ k ih => exact em_cb1_le hn ih
theorem em_swr_bit {r a b j : Nat} (hj : j < 9) : em_bit (em_swr r a b) j = ey_sw (em_bit r) a b j := by
  rw [em_bit_bb]
  unfold em_swr
  rw [em_or_bit hj]
  unfold ey_sw
  rw [em_bit_bb, em_bit_bb, em_bit_bb]
  split
  · rfl
  · split <;> rfl
theorem em_swr_lt {n r a b : Nat} (hn : n ≤ 9) (hr : r < 2 ^ n) (ha : a < n) (hb : b < n) : em_swr r a b < 2 ^ n := by
  apply Nat.lt_pow_two_of_testBit
  intro i hi
  rcases Nat.lt_or_ge i 9 with h9 | h9
  · unfold em_swr
    rw [em_or_bit h9]
    unfold ey_sw
    rw [if_neg (by omega), if_neg (by omega)]
    exact Nat.testBit_lt_two_pow (Nat.lt_of_lt_of_le hr (Nat.pow_le_pow_right (by decide) hi))
  · exact Nat.testBit_lt_two_pow (Nat.lt_of_lt_of_le (em_or_lt 9 _) (Nat.pow_le_pow_right (by decide) h9))
/-- rows with two beds changed, the first k of them (of nine each) -/
def em_chg (v : Nat → Int32) (a b k j : Nat) : Int32 := if j < 9 * k then v (9 * (j / 9) + ey_sw id a b (j % 9)) else v j
theorem me_changes_l {a b : Nat} (ha : a < 9) (hb : b < 9) (hab : a ≠ b) {k m : Nat} (hk : k + m = 5) (h0 : ∀ c, c ≠ 315 → I c = I0 c) (h1 : ∀ j, I 315 j = em_chg (I0 315) a b k j) {o : Option Value} (h : ∀ I' : Nat → Nat → Int32, (∀ c, c ≠ 315 → I' c = I0 c) → (∀ j, I' 315 j = em_chg (I0 315) a b 5 j) → Q none (em_SH, I', J, em_RT lw)) : em_wp em_sc0 d 230 2 [some (.ref 284), some (.int (nI a)), some (.int (nI b)), some (.int (nI (9 * k))), o] [] (em_SH, I, J, em_RT lw) Q := by
  have ea : ∀ k x : Nat, nI (9 * k) + nI x = nI (9 * k + x) := fun k x => (em_nadd _ _).symm
  induction m generalizing k I o with
  | zero =>
    have e : k = 5 := by omega
    subst e
    iterate 3 refine em_next rfl ?_
    refine em_c_ge (fun _ => ?_) (fun h1 => absurd (by decide) h1)
    exact em_done rfl (h I h0 h1)
  | succ m ih =>
    iterate 3 refine em_next rfl ?_
    refine em_c_ge (fun h1 => absurd h1 (nI_ge (b := 45) (by omega) (by decide))) (fun _ => ?_)
    iterate 5 refine em_next rfl ?_
    refine em_ialk (i := nI (9 * k) + nI a) (k := 9 * k + a) rfl rfl (by rw [ea]; exact em_in_n (by omega) (by decide)) (by rw [ea]; exact nI_clamp (by omega)) ?_
    iterate 11 refine em_next rfl ?_
    refine em_ialk (i := nI (9 * k) + nI b) (k := 9 * k + b) rfl rfl (by rw [ea]; exact em_in_n (by omega) (by decide)) (by rw [ea]; exact nI_clamp (by omega)) ?_
    refine em_iask (i := nI (9 * k) + nI a) (k := 9 * k + a) rfl rfl (by rw [ea]; exact em_in_n (by omega) (by decide)) (by rw [ea]; exact nI_clamp (by omega)) ?_
    iterate 6 refine em_next rfl ?_
    refine em_iask (i := nI (9 * k) + nI b) (k := 9 * k + b) rfl rfl (by rw [ea]; exact em_in_n (by omega) (by decide)) (by rw [ea]; exact nI_clamp (by omega)) ?_
    iterate 2 refine em_next rfl ?_
    have g := ih (k := k + 1) (I := em_u (em_u I 315 (9 * k + a) (I 315 (9 * k + b))) 315 (9 * k + b) (I 315 (9 * k + a))) (o := some (.int (I 315 (9 * k + a)))) (by omega) (fun c hc => by rw [em_u_row hc, em_u_row hc]; exact h0 c hc) (fun j => ?_)
    · rw [show 9 * (k + 1) = 9 * k + 9 by omega, em_nadd] at g
      exact g
    · have ja : I 315 (9 * k + a) = I0 315 (9 * k + a) := by rw [h1]; exact if_neg (by omega)
      have jb : I 315 (9 * k + b) = I0 315 (9 * k + b) := by rw [h1]; exact if_neg (by omega)
      by_cases q1 : j = 9 * k + b
      · subst q1
        rw [em_u_self, ja]
        unfold em_chg ey_sw
        rw [if_pos (by omega), show (9 * k + b) % 9 = b by omega, show (9 * k + b) / 9 = k by omega, if_neg (fun q => hab q.symm), if_pos rfl]
        rfl
      · rw [em_u_ne q1]
        by_cases q2 : j = 9 * k + a
        · subst q2
          rw [em_u_self, jb]
          unfold em_chg ey_sw
          rw [if_pos (by omega), show (9 * k + a) % 9 = a by omega, show (9 * k + a) / 9 = k by omega, if_pos rfl]
          rfl
        · rw [em_u_ne q2, h1]
          unfold em_chg
          by_cases q3 : j < 9 * k
          · rw [if_pos q3, if_pos (by omega)]
          · rw [if_neg q3]
            by_cases q4 : j < 9 * (k + 1)
            · rw [if_pos q4]
              unfold ey_sw
              rw [if_neg (by omega), if_neg (by omega)]
              congr 1
              show j = 9 * (j / 9) + j % 9
              omega
            · rw [if_neg q4]
theorem em_chg_at {v : Nat → Int32} {a b k j : Nat} (hk : k < 5) (hj : j < 9) (ha : a < 9) (hb : b < 9) : em_chg v a b 5 (9 * k + j) = ey_sw (fun j => v (9 * k + j)) a b j := by
  unfold em_chg
  rw [if_pos (by omega), show (9 * k + j) / 9 = k by omega, show (9 * k + j) % 9 = j by omega]
  unfold ey_sw
  split
  · rfl
  · split <;> rfl
theorem me_changes {a b : Nat} (ha : a < 9) (hb : b < 9) (hab : a ≠ b) (h : ∀ I' : Nat → Nat → Int32, (∀ c, c ≠ 315 → I' c = I c) → (∀ j, I' 315 j = em_chg (I 315) a b 5 j) → Q none (em_SH, I', J, em_RT lw)) : em_call d 230 [.ref 284, .int (nI a), .int (nI b)] (em_SH, I, J, em_RT lw) Q := by
  iterate 2 refine em_next rfl ?_
  exact me_changes_l (k := 0) (m := 5) (I0 := I) ha hb hab (by omega) (fun _ _ => rfl) (fun j => (if_neg (by omega)).symm) h
theorem mo_N.sw {I' : Nat → Nat → Int32} (hn : P.1 ≤ 9) (hN : mo_Nt I P Y) {a b : Nat} (ha : a < P.1) (hb : b < P.1) (h : ∀ j, I' 315 j = em_chg (I 315) a b 5 j) : mo_Nt I' (em_swP P a b) (em_swX Y a b) := by
  have sw : ∀ (v u : Nat → Int32), (∀ j, j < P.1 → v j = u j) → ∀ j, j < P.1 → ey_sw v a b j = ey_sw u a b j := by
    intro v u e j hj
    unfold ey_sw
    split
    · exact e b hb
    · split
      · exact e a ha
      · exact e j hj
  refine ⟨⟨em_swr_lt hn hN.1.1 ha hb, hN.1.2.1, ?_⟩, fun j hj => ⟨?_, ?_, ?_⟩⟩
  · rw [h]
    exact (if_neg (by decide)).trans hN.1.2.2
  · have e := em_chg_at (v := I 315) (a := a) (b := b) (k := 0) (j := j) (by decide) (by have := hj; dsimp only [em_swP] at this; omega) (by omega) (by omega)
    rw [Nat.mul_zero, Nat.zero_add] at e
    rw [h, e]
    show _ = em_bit (em_swr Y.1 a b) j
    rw [em_swr_bit (by have := hj; dsimp only [em_swP] at this; omega)]
    refine sw _ _ (fun i hi => ?_) j hj
    rw [Nat.zero_add]
    exact (hN.2 i hi).1
  · rw [h, em_chg_at (k := 1) (by decide) (by have := hj; dsimp only [em_swP] at this; omega) (by omega) (by omega)]
    exact sw _ _ (fun i hi => (hN.2 i hi).2.1) j hj
  · rw [h, em_chg_at (k := 3) (by decide) (by have := hj; dsimp only [em_swP] at this; omega) (by omega) (by omega)]
    exact sw _ _ (fun i hi => (hN.2 i hi).2.2) j hj
theorem me_cb_1 (hS : mo_S I lv P X) {w : Int32} {n a k m : Nat} {s : Int32 × Nat} {o : Option Value} (hnn : n ≤ 48) (hs2 : s.2 ≤ 432) (ha : a < P.1) (hk : a + 1 + k + m = P.1) (h : ∀ (I' : Nat → Nat → Int32) (o' : Option Value), em_fM I I' → em_wp em_sc0 (d + 8) 265 109 [some (.ref 284), some (.int (nI n)), some (.int (w)), some (.int (nI (em_cb1 P X n a s (P.1 - (a + 1))).2)), some (.int ((em_cb1 P X n a s (P.1 - (a + 1))).1)), some (.int (nI a)), some (.int (nI P.1)), o'] [] (em_SH, I', J, em_RT lw) Q) : em_wp em_sc0 (d + 8) 265 53 [some (.ref 284), some (.int (nI n)), some (.int (w)), some (.int (nI (em_cb1 P X n a s k).2)), some (.int ((em_cb1 P X n a s k).1)), some (.int (nI a)), some (.int (nI (a + 1 + k))), o] [] (em_SH, I, J, em_RT lw) Q := by
  have hn := hS.1.1.2.1
  have hX := hS.2.2
  induction m generalizing k I o with
  | zero =>
    have e : a + 1 + k = P.1 := by omega
    have ek : k = P.1 - (a + 1) := by omega
    subst ek
    rw [e]
    iterate 2 refine em_next rfl ?_
    refine em_inv_call rfl (me_many hS.1 ?_)
    iterate 1 refine em_next rfl ?_
    refine em_c_ge (fun _ => ?_) (fun h1 => absurd (nI_le (Nat.le_refl _) (by omega)) h1)
    exact h I o em_fM.rf
  | succ m ih =>
    iterate 2 refine em_next rfl ?_
    refine em_inv_call rfl (me_many hS.1 ?_)
    iterate 1 refine em_next rfl ?_
    refine em_c_ge (fun h1 => absurd h1 (nI_ge (by omega) (by omega))) (fun _ => ?_)
    iterate 1 refine em_next rfl ?_
    refine em_inv_call rfl (me_cs hS (fun I1 a1 a2 a3 a4 => ?_))
    iterate 3 refine em_next rfl ?_
    refine em_inv_call rfl (me_changes (a := a) (b := a + 1 + k) (by omega) (by omega) (by omega) (fun I2 b1 b2 => ?_))
    have f2 : em_fM I1 I2 := em_fM.row (a := 315) (by decide) b1
    have hN2 := mo_N.sw hn a3 ha (by omega) b2
    iterate 2 refine em_next rfl ?_
    refine em_inv_call rfl (me_leftIn (P := em_swP P a (a + 1 + k)) (Y := em_swX X a (a + 1 + k)) (a2.keep f2).1 hN2 hX hnn (by rw [b1 _ (by decide)]; exact a4) (fun I3 c1 => ?_))
    iterate 4 refine em_next rfl ?_
    have f3 := (a1.tr f2).tr c1
    have g := ih (k := k + 1) (I := I3) (o := some (.int (nI (em_cbv P X n a (a + 1 + k))))) (hS.keep f3) (by omega) (fun I' o' f => h I' o' (f3.tr f))
    rw [em_cb1, ← Nat.add_assoc, nI_succ] at g
    have m1 := em_cb1_le (P := P) (X := X) (n := n) (a := a) (k := k) hnn hs2
    have m2 : em_cbv P X n a (a + 1 + k) ≤ 432 := by
      have := em_li_le (em_swP P a (a + 1 + k)) (em_swX X a (a + 1 + k)) n
      unfold em_cbv
      omega
    refine em_c_gt (fun q => ?_) (fun q => ?_)
    · rw [if_pos ((nI_ltI (by omega) (by omega)).mp q : (em_cb1 P X n a s k).2 < em_cbv P X n a (a + 1 + k))] at g
      iterate 10 refine em_next rfl ?_
      exact g
    · rw [if_neg (fun z => q ((nI_ltI (a := (em_cb1 P X n a s k).2) (b := em_cbv P X n a (a + 1 + k)) (by omega) (by omega)).mpr z))] at g
      iterate 3 refine em_next rfl ?_
      exact g
theorem me_cb_l (hS : mo_S I lv P X) {w : Int32} {n k m : Nat} {o o2 : Option Value} (hnn : n ≤ 48) (hk : k + m = P.1) (h : ∀ I' : Nat → Nat → Int32, em_fM I I' → Q (some (.int (if (em_cb P X n P.1).1 < 0 ∨ w = 0 then (em_cb P X n P.1).1 else nI (em_cb P X n P.1).2))) (em_SH, I', J, em_RT lw)) : em_wp em_sc0 (d + 8) 265 38 [some (.ref 284), some (.int (nI n)), some (.int (w)), some (.int (nI (em_cb P X n k).2)), some (.int ((em_cb P X n k).1)), some (.int (nI k)), o, o2] [] (em_SH, I, J, em_RT lw) Q := by
  have hn := hS.1.1.2.1
  induction m generalizing k I o o2 with
  | zero =>
    have e : k = P.1 := by omega
    subst e
    iterate 2 refine em_next rfl ?_
    refine em_inv_call rfl (me_many hS.1 ?_)
    iterate 1 refine em_next rfl ?_
    refine em_c_ge (fun _ => ?_) (fun h1 => absurd (nI_le (Nat.le_refl _) (by omega)) h1)
    iterate 2 refine em_next rfl ?_
    have g := h I em_fM.rf
    refine em_z_lt (fun z => ?_) (fun z => ?_)
    · rw [if_pos (Or.inl z)] at g
      iterate 2 refine em_next rfl ?_
      exact em_done rfl g
    · iterate 2 refine em_next rfl ?_
      refine em_z_ne (fun z2 => ?_) (fun z2 => ?_)
      · rw [if_neg (fun q => q.elim z z2)] at g
        iterate 1 refine em_next rfl ?_
        exact em_done rfl g
      · rw [if_pos (Or.inr z2)] at g
        iterate 2 refine em_next rfl ?_
        exact em_done rfl g
  | succ m ih =>
    iterate 2 refine em_next rfl ?_
    refine em_inv_call rfl (me_many hS.1 ?_)
    iterate 1 refine em_next rfl ?_
    refine em_c_ge (fun h1 => absurd h1 (nI_ge (by omega) (by omega))) (fun _ => ?_)
    iterate 4 refine em_next rfl ?_
    have g := me_cb_1 (d := d) (I := I) (J := J) (lw := lw) (Q := Q) (w := w) (n := n) (a := k) (k := 0) (m := P.1 - (k + 1)) (s := em_cb P X n k) (o := o2) hS hnn (em_cb_le hnn) (by omega) (by omega) (fun I1 o1 a1 => ?_)
    · rw [Nat.add_zero, nI_succ] at g
      exact g
    · iterate 2 refine em_next rfl ?_
      have g := ih (k := k + 1) (I := I1) (o := some (.int (nI P.1))) (o2 := o1) (hS.keep a1) (by omega) (fun I' f => h I' (a1.tr f))
      rw [em_cb, nI_succ] at g
      exact g
theorem mq_changeBest (hS : mo_S I lv P X) {n w : Int32} (h : ∀ I' : Nat → Nat → Int32, em_fM I I' → Q (some (.int (sp_changeBest P X n w))) (em_SH, I', J, em_RT lw)) : em_call (d + 8) 265 [.ref 284, .int n, .int w] (em_SH, I, J, em_RT lw) Q := by
  unfold sp_changeBest at h
  iterate 3 refine em_next rfl ?_
  refine em_inv_call rfl (me_inQ (a := 1) (b := 24) ?_)
  iterate 1 refine em_next rfl ?_
  refine em_b_eq (fun g => ?_) (fun g => ?_)
  · rw [if_neg (fun q => g q.1)] at h
    iterate 1 refine em_next rfl ?_
    exact em_done rfl (h I em_fM.rf)
  iterate 3 refine em_next rfl ?_
  refine em_inv_call rfl (me_inQ (a := 0) (b := 1) ?_)
  iterate 1 refine em_next rfl ?_
  refine em_b_ne (fun g2 => ?_) (fun g2 => ?_)
  · rw [if_pos ⟨g, g2⟩] at h
    obtain ⟨m, hm, rfl, em⟩ := em_nat (m := 24) (by decide) (Int32.le_trans (by decide) g.1) g.2
    rw [em] at h
    iterate 1 refine em_next rfl ?_
    refine em_inv_call rfl (me_cs hS (fun I1 a1 a2 a3 a4 => ?_))
    iterate 2 refine em_next rfl ?_
    refine em_inv_call rfl (me_leftIn (n := m) a2.1 a3 hS.2.2 (by omega) a4 (fun I2 b1 => ?_))
    iterate 5 refine em_next rfl ?_
    exact me_cb_l (k := 0) (m := P.1) (n := m) (a2.keep b1) (by omega) (by omega) (fun I' f => h I' ((a1.tr b1).tr f))
  · rw [if_neg (fun q => g2 q.2)] at h
    iterate 1 refine em_next rfl ?_
    exact em_done rfl (h I em_fM.rf)
end MQ6
